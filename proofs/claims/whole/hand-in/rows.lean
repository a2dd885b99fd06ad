section
/-! pasted from kit/rows: pk_*, s_l, nx_* -/
theorem pk_us {f : Nat → Int32} {k : Nat} {x : Int32} : upd f k x k = x := if_pos rfl
theorem pk_un {f : Nat → Int32} {k j : Nat} {x : Int32} (h : j ≠ k) : upd f k x j = f j := if_neg h
theorem pk_sub {a b : Nat} (h : b ≤ a) : nI a - nI b = nI (a - b) := by
  obtain ⟨c, rfl⟩ : ∃ c, a = c + b := ⟨a - b, by omega⟩
  rw [← nI_add, Int32.add_sub_cancel, Nat.add_sub_cancel]
theorem pk_m1 (n : Nat) : nI (n + 1) + (-1) = nI n := by
  rw [← nI_1, Int32.add_assoc, show (1 : Int32) + (-1) = 0 from rfl, Int32.add_zero]
theorem pk_mul (a b : Nat) : nI a * nI b = nI (a * b) := (Int32.ofNat_mul a b).symm
theorem pk_sub_toInt {a b : Nat} (ha : a < 2 ^ 30) (hb : b < 2 ^ 30) : (nI a - nI b).toInt = (a : Int) - b := by
  rw [Int32.toInt_sub, nI_toInt (by omega), nI_toInt (by omega)]
  exact Int.bmod_eq_of_le (by omega) (by omega)
theorem pk_sneg {a b : Nat} (hb : b < 2 ^ 30) (h : a < b) : nI a - nI b < 0 := by
  rw [Int32.lt_iff_toInt_lt, pk_sub_toInt (by omega) hb, show (0 : Int32).toInt = 0 from by decide]
  omega
theorem pk_ix (x : Int32) {n : Nat} (hn : n < 2 ^ 31) : x < 0 ∨ nI n ≤ x ∨ ∃ j : Nat, j < n ∧ x = nI j := by
  by_cases h : x < 0
  · exact Or.inl h
  · obtain ⟨j, hj, rfl⟩ := nI_of h
    by_cases h2 : j < n
    · exact Or.inr (Or.inr ⟨j, h2, rfl⟩)
    · exact Or.inr (Or.inl (nI_le (by omega) hj))
theorem pk_le {x y : Int32} {A B : Prop} (a b : Nat) (f : a ≤ b → A) (g : b < a → B) (hx : x = nI a := by rfl) (hy : y = nI b := by rfl) (ha : a < 2 ^ 31 := by omega) (hb : b < 2 ^ 31 := by omega) : (x ≤ y → A) ∧ (¬ x ≤ y → B) := by
  subst hx hy
  rw [nI_leI ha hb]
  exact ⟨f, fun z => g (by omega)⟩
theorem pk_lt {x y : Int32} {A B : Prop} (a b : Nat) (f : a < b → A) (g : b ≤ a → B) (hx : x = nI a := by rfl) (hy : y = nI b := by rfl) (ha : a < 2 ^ 31 := by omega) (hb : b < 2 ^ 31 := by omega) : (x < y → A) ∧ (¬ x < y → B) := by
  subst hx hy
  rw [nI_ltI ha hb]
  exact ⟨f, fun z => g (by omega)⟩
theorem pk_eq {x y : Int32} {A B : Prop} (a b : Nat) (f : a = b → A) (g : a ≠ b → B) (hx : x = nI a := by rfl) (hy : y = nI b := by rfl) (ha : a < 2 ^ 31 := by omega) (hb : b < 2 ^ 31 := by omega) : (x = y → A) ∧ (¬ x = y → B) := by
  subst hx hy
  rw [nI_eq ha hb]
  exact ⟨f, g⟩
theorem pk_in {x : Int32} (n N : Nat) (h : n < N) (hx : x = nI n := by rfl) (hN : N < 2 ^ 31 := by omega) : vp_in x N := by
  subst hx
  exact vp_in_nI h hN
theorem pk_cl {x : Int32} (n : Nat) (hx : x = nI n := by rfl) (h : n < 2 ^ 31 := by omega) : x.toNatClampNeg = n := by
  subst hx
  exact nI_clamp h
theorem pk_tn {n : Nat} (h : n < 2 ^ 32) : (nI n).toBitVec.toNat = n := Nat.mod_eq_of_lt h
theorem pk_and (x : Int32) {m : Int32} (k : Nat) (hm : m.toBitVec.toNat = 2 ^ k - 1) : x &&& m = nI (x.toBitVec.toNat % 2 ^ k) := by
  apply Int32.toBitVec_inj.mp
  apply BitVec.eq_of_toNat_eq
  rw [Int32.toBitVec_and, BitVec.toNat_and, hm, Nat.and_two_pow_sub_one_eq_mod]
  show _ = (BitVec.ofNat 32 _).toNat
  rw [BitVec.toNat_ofNat]
  exact (Nat.mod_eq_of_lt (Nat.lt_of_le_of_lt (Nat.mod_le _ _) x.toBitVec.isLt)).symm
theorem pk_andN {n : Nat} (h : n < 2 ^ 32) {m : Int32} (k : Nat) (hm : m.toBitVec.toNat = 2 ^ k - 1) : nI n &&& m = nI (n % 2 ^ k) := by
  rw [pk_and _ k hm, pk_tn h]
theorem pk_shl (a s : Int32) (k : Nat) (hs : (s.toBitVec.smod 32).toNat = k) : (a <<< s).toBitVec.toNat = a.toBitVec.toNat * 2 ^ k % 2 ^ 32 := by
  show (a.toBitVec <<< (s.toBitVec.smod 32).toNat).toNat = _
  rw [hs, BitVec.toNat_shiftLeft, Nat.shiftLeft_eq]
theorem pk_shlN {n : Nat} (s : Int32) (k : Nat) (hs : (s.toBitVec.smod 32).toNat = k) (h : n * 2 ^ k < 2 ^ 32) : nI n <<< s = nI (n * 2 ^ k) := by
  apply Int32.toBitVec_inj.mp
  apply BitVec.eq_of_toNat_eq
  have hn : n < 2 ^ 32 := Nat.lt_of_le_of_lt (Nat.le_mul_of_pos_right n (Nat.two_pow_pos k)) h
  rw [pk_shl _ _ k hs, pk_tn hn, pk_tn h, Nat.mod_eq_of_lt h]
theorem pk_shr (a s : Int32) (k : Nat) (hs : (s.toBitVec.smod 32).toNat = k) : (a >>> s).toInt = a.toInt >>> k := by
  show (a.toBitVec.sshiftRight (s.toBitVec.smod 32).toNat).toInt = _
  rw [hs, BitVec.toInt_sshiftRight]
  rfl
theorem pk_shrN {n : Nat} (h : n < 2 ^ 31) (s : Int32) (k : Nat) (hs : (s.toBitVec.smod 32).toNat = k) : nI n >>> s = nI (n / 2 ^ k) := by
  apply Int32.toInt_inj.mp
  have h2 : n / 2 ^ k ≤ n := Nat.div_le_self _ _
  rw [pk_shr _ _ k hs, nI_toInt h, nI_toInt (by omega), Int.shiftRight_eq_div_pow]
  rfl
theorem s_l : ∀ n, n < 32 → ((nI n &&& 31).toBitVec.smod 32).toNat = n := by decide +kernel
theorem nx_and (a b : Nat) : nI a &&& nI b = nI (a &&& b) := by
  apply Int32.toBitVec_inj.1
  show BitVec.ofNat 32 a &&& BitVec.ofNat 32 b = BitVec.ofNat 32 (a &&& b)
  apply BitVec.eq_of_getLsbD_eq
  intro i hi
  simp [hi]
theorem nx_xor (a b : Nat) : nI a ^^^ nI b = nI (a ^^^ b) := by
  apply Int32.toBitVec_inj.1
  show BitVec.ofNat 32 a ^^^ BitVec.ofNat 32 b = BitVec.ofNat 32 (a ^^^ b)
  apply BitVec.eq_of_getLsbD_eq
  intro i hi
  simp [hi]
theorem pk_loop {σ : Type} (W : Nat → Nat → σ → Prop) (I : Nat → σ → Prop) (e i0 : Nat) (s : σ) (hi : i0 ≤ e) (h0 : I i0 s) (hx : ∀ n s, I e s → W (n + 1) e s)
    (hs : ∀ n i s, i < e → I i s → (∀ s', I (i + 1) s' → W n (i + 1) s') → W (n + 1) i s) : ∃ n, W n i0 s :=
  ⟨e + 1, loop_i W I e hx hs (e + 1) i0 s hi (by omega) h0⟩
/-! own: numbers, bits, digits -/
theorem td_nor (a b : Nat) : nI a ||| nI b = nI (a ||| b) := by
  apply Int32.toBitVec_inj.1
  show BitVec.ofNat 32 a ||| BitVec.ofNat 32 b = BitVec.ofNat 32 (a ||| b)
  apply BitVec.eq_of_getLsbD_eq
  intro i hi
  simp [hi]
theorem td_shr {n k : Nat} (h : n < 2 ^ 31) (hk : k < 32) : nI n >>> (nI k &&& 31) = nI (n / 2 ^ k) := pk_shrN h _ k (s_l k hk)
theorem td_sh1 {k : Nat} (hk : k < 31) : (1 : Int32) <<< (nI k &&& 31) = nI (2 ^ k) := by
  have h : 1 * 2 ^ k < 2 ^ 32 := by
    rw [Nat.one_mul]
    exact Nat.pow_lt_pow_right (by decide) (by omega)
  have e := pk_shlN (n := 1) (nI k &&& 31) k (s_l k (by omega)) h
  rw [Nat.one_mul] at e
  exact e
theorem td_lt1 {n k : Nat} (h : n < 2 ^ 31) : n / 2 ^ k < 2 ^ 31 := Nat.lt_of_le_of_lt (Nat.div_le_self _ _) h
theorem td_bit {n k : Nat} (h : n < 2 ^ 31) (hk : k < 32) : (nI n >>> (nI k &&& 31)) &&& 1 = nI (n / 2 ^ k % 2) := by
  rw [td_shr h hk]
  show nI _ &&& nI 1 = _
  rw [nx_and, Nat.and_one_is_mod]
theorem td_and7 {n : Nat} (h : n < 2 ^ 32) : nI n &&& 7 = nI (n % 8) := pk_andN h 3 (by decide)
theorem td_127 (i : Nat) : (127 : Nat).testBit i = decide (i < 7) := Nat.testBit_two_pow_sub_one 7 i
theorem td_31 (i : Nat) : (31 : Nat).testBit i = decide (i < 5) := Nat.testBit_two_pow_sub_one 5 i
theorem td_m1 (i : Nat) : (4294967295 : Nat).testBit i = decide (i < 32) := Nat.testBit_two_pow_sub_one 32 i
theorem td_clr {a b : Nat} (ha : a < 128) : nI a &&& (nI b ^^^ (-1)) = nI (a &&& (b ^^^ 127)) := by
  rw [show (-1 : Int32) = nI 4294967295 from by decide, nx_xor, nx_and]
  congr 1
  apply Nat.eq_of_testBit_eq
  intro i
  rw [Nat.testBit_and, Nat.testBit_and, Nat.testBit_xor, Nat.testBit_xor, td_127, td_m1]
  rcases Nat.lt_or_ge i 7 with h | h
  · rw [decide_eq_true h, decide_eq_true (show i < 32 from by omega)]
  · rw [Nat.testBit_lt_two_pow (Nat.lt_of_lt_of_le ha (show 2 ^ 7 ≤ 2 ^ i from Nat.pow_le_pow_right (by decide) h))]
    rfl
theorem td_tb (s k : Nat) : s / 2 ^ k % 2 = if s.testBit k = true then 1 else 0 := by
  rw [Nat.testBit_eq_decide_div_mod_eq]
  by_cases h : s / 2 ^ k % 2 = 1
  · rw [h, decide_eq_true rfl, if_pos rfl]
  · rw [decide_eq_false h, if_neg (by decide)]
    omega
theorem td_tb1 {s k : Nat} : s / 2 ^ k % 2 = 1 ↔ s.testBit k = true := by
  rw [td_tb]
  by_cases h : s.testBit k = true
  · rw [if_pos h]; exact ⟨fun _ => h, fun _ => rfl⟩
  · rw [if_neg h]; exact ⟨fun z => absurd z (by decide), fun z => absurd z h⟩
/-- the digit of a choice at a place: place 0 has the highest three bits -/
def td_dg (c : Nat) : Nat → Nat
  | 0 => c / 4096 % 8
  | 1 => c / 512 % 8
  | 2 => c / 64 % 8
  | 3 => c / 8 % 8
  | _ => c % 8
theorem td_dg0 (c : Nat) : td_dg c 0 = c / 4096 % 8 := rfl
theorem td_dg1 (c : Nat) : td_dg c 1 = c / 512 % 8 := rfl
theorem td_dg2 (c : Nat) : td_dg c 2 = c / 64 % 8 := rfl
theorem td_dg3 (c : Nat) : td_dg c 3 = c / 8 % 8 := rfl
theorem td_dg4 (c : Nat) : td_dg c 4 = c % 8 := rfl
theorem td_dg_lt (c i : Nat) : td_dg c i < 8 := by
  unfold td_dg
  split <;> omega
theorem td_5 {P : Nat → Prop} (h0 : P 0) (h1 : P 1) (h2 : P 2) (h3 : P 3) (h4 : P 4) : ∀ i, i < 5 → P i := by
  intro i hi
  match i, hi with
  | 0, _ => exact h0
  | 1, _ => exact h1
  | 2, _ => exact h2
  | 3, _ => exact h3
  | 4, _ => exact h4
theorem td_7 {P : Nat → Prop} (h0 : P 0) (h1 : P 1) (h2 : P 2) (h3 : P 3) (h4 : P 4) (h5 : P 5) (h6 : P 6) : ∀ i, i < 7 → P i := by
  intro i hi
  match i, hi with
  | 0, _ => exact h0
  | 1, _ => exact h1
  | 2, _ => exact h2
  | 3, _ => exact h3
  | 4, _ => exact h4
  | 5, _ => exact h5
  | 6, _ => exact h6
theorem td_cnt5 : ∀ i, i < 5 → (3 : Int32) * (4 - nI i) = nI (3 * (4 - i)) := by decide +kernel
theorem td_cnt7 : ∀ v, v < 7 → (3 : Int32) * nI v = nI (3 * v) := by decide +kernel
theorem td_val {c : Nat} (hc : c < 32768) : ∀ i, i < 5 → (nI c >>> ((3 * (4 - nI i)) &&& 31)) &&& 7 = nI (td_dg c i) := by
  intro i hi
  rw [td_cnt5 i hi, td_shr (by omega) (by omega), td_and7 (Nat.lt_trans (td_lt1 (show c < 2 ^ 31 from by omega)) (by decide))]
  congr 1
  revert i
  exact td_5 rfl rfl rfl rfl (by show c / 1 % 8 = c % 8; rw [Nat.div_one])
end
section
/-! the picture: sets of bits, uses, fillings -/
def td_bs (P : Nat → Bool) : Nat → Nat
  | 0 => 0
  | i + 1 => if P i = true then td_bs P i ||| 2 ^ i else td_bs P i
theorem td_bs_b (P : Nat → Bool) : ∀ n i, (td_bs P n).testBit i = true ↔ i < n ∧ P i = true := by
  intro n
  induction n with
  | zero =>
    intro i
    simp [td_bs]
  | succ n ih =>
    intro i
    by_cases h : P n = true
    · have e : td_bs P (n + 1) = td_bs P n ||| 2 ^ n := if_pos h
      rw [e, Nat.testBit_or, Bool.or_eq_true, ih i, Nat.testBit_two_pow, decide_eq_true_eq]
      constructor
      · intro z
        rcases z with ⟨a, b⟩ | z
        · exact ⟨by omega, b⟩
        · subst z
          exact ⟨by omega, h⟩
      · intro z
        by_cases q : i < n
        · exact Or.inl ⟨q, z.2⟩
        · exact Or.inr (by omega)
    · have e : td_bs P (n + 1) = td_bs P n := if_neg h
      rw [e, ih i]
      constructor
      · intro z
        exact ⟨by omega, z.2⟩
      · intro z
        by_cases q : i < n
        · exact ⟨q, z.2⟩
        · have e2 : i = n := by omega
          subst e2
          exact absurd z.2 h
theorem td_bs_lt (P : Nat → Bool) (n : Nat) : td_bs P n < 2 ^ n := by
  apply Nat.lt_pow_two_of_testBit
  intro i hi
  by_cases h : (td_bs P n).testBit i = true
  · have := (td_bs_b P n i).mp h
    omega
  · exact Bool.eq_false_iff.mpr h
/-- how often the first i places of a choice have v -/
def td_cn (c : Nat) : Nat → Nat → Nat
  | 0, _ => 0
  | i + 1, v => td_cn c i v + if td_dg c i = v then 1 else 0
theorem td_cn_s (c i v : Nat) : td_cn c (i + 1) v = td_cn c i v + if td_dg c i = v then 1 else 0 := rfl
theorem td_cn_le (c i v : Nat) : td_cn c i v ≤ i := by
  induction i with
  | zero => exact Nat.le_refl 0
  | succ i ih =>
    rw [td_cn_s]
    by_cases h : td_dg c i = v
    · rw [if_pos h]; omega
    · rw [if_neg h]; omega
theorem td_cn_m1 (c i v : Nat) : td_cn c i v ≤ td_cn c (i + 1) v := by
  rw [td_cn_s]
  exact Nat.le_add_right _ _
theorem td_cn_mono (c v : Nat) : ∀ d i, td_cn c i v ≤ td_cn c (i + d) v := by
  intro d i
  induction d with
  | zero => exact Nat.le_refl _
  | succ d ih => exact Nat.le_trans ih (td_cn_m1 c (i + d) v)
theorem td_cn_eq {c c' p : Nat} (h : ∀ j, j < p → td_dg c j = td_dg c' j) (v : Nat) : td_cn c p v = td_cn c' p v := by
  induction p with
  | zero => rfl
  | succ p ih =>
    rw [td_cn_s, td_cn_s, ih (fun j hj => h j (by omega)), h p (by omega)]
/-- the first i places of a choice are a part filling (7: left out) -/
def td_ok (D C : Nat → Nat) (c : Nat) : Nat → Bool
  | 0 => true
  | i + 1 => td_ok D C c i && (td_dg c i == 7 || ((D i).testBit (td_dg c i) && decide (td_cn c (i + 1) (td_dg c i) ≤ C (td_dg c i))))
theorem td_ok_s {D C : Nat → Nat} {c i : Nat} : td_ok D C c (i + 1) = true ↔ td_ok D C c i = true ∧ (td_dg c i = 7 ∨ ((D i).testBit (td_dg c i) = true ∧ td_cn c (i + 1) (td_dg c i) ≤ C (td_dg c i))) := by
  show (td_ok D C c i && (td_dg c i == 7 || ((D i).testBit (td_dg c i) && decide (td_cn c (i + 1) (td_dg c i) ≤ C (td_dg c i))))) = true ↔ _
  rw [Bool.and_eq_true, Bool.or_eq_true, Bool.and_eq_true, beq_iff_eq, decide_eq_true_eq]
theorem td_ok_iff {D C : Nat → Nat} {c : Nat} : ∀ n, td_ok D C c n = true ↔ ∀ i, i < n → (td_dg c i = 7 ∨ ((D i).testBit (td_dg c i) = true ∧ td_cn c (i + 1) (td_dg c i) ≤ C (td_dg c i))) := by
  intro n
  induction n with
  | zero => exact ⟨fun _ i hi => absurd hi (Nat.not_lt_zero i), fun _ => rfl⟩
  | succ n ih =>
    rw [td_ok_s, ih]
    constructor
    · intro z i hi
      by_cases q : i < n
      · exact z.1 i q
      · have e : i = n := by omega
        subst e
        exact z.2
    · intro z
      exact ⟨fun i hi => z i (by omega), z n (by omega)⟩
theorem td_ok_cn {D C : Nat → Nat} {c : Nat} : ∀ n, td_ok D C c n = true → ∀ v, v ≠ 7 → td_cn c n v ≤ C v := by
  intro n
  induction n with
  | zero => intro _ v _; exact Nat.zero_le _
  | succ n ih =>
    intro h v hv
    have h2 := td_ok_s.mp h
    by_cases q : td_dg c n = v
    · rcases h2.2 with z | z
      · exact absurd (q.symm.trans z) hv
      · rw [q] at z
        exact z.2
    · rw [td_cn_s, if_neg q]
      exact ih h2.1 v hv
theorem td_ok_of {D C : Nat → Nat} {c : Nat} (h : ∀ i, i < 5 → td_dg c i = 7 ∨ (D i).testBit (td_dg c i) = true) (hc : ∀ v, v < 7 → td_cn c 5 v ≤ C v) : td_ok D C c 5 = true := by
  rw [td_ok_iff]
  intro i hi
  rcases h i hi with z | z
  · exact Or.inl z
  · by_cases q : td_dg c i = 7
    · exact Or.inl q
    · refine Or.inr ⟨z, Nat.le_trans ?_ (hc _ (by have := td_dg_lt c i; omega))⟩
      have := td_cn_mono c (td_dg c i) (5 - (i + 1)) (i + 1)
      rw [show i + 1 + (5 - (i + 1)) = 5 from by omega] at this
      exact this
/-- the places that a choice leaves out -/
def td_lo (c : Nat) (n : Nat) : Nat := td_bs (fun i => td_dg c i == 7) n
theorem td_lo_b (c n i : Nat) : (td_lo c n).testBit i = true ↔ i < n ∧ td_dg c i = 7 := by
  unfold td_lo
  rw [td_bs_b, beq_iff_eq]
theorem td_lo_lt (c : Nat) : td_lo c 5 < 32 := td_bs_lt _ 5
theorem td_lo_0 {c : Nat} : td_lo c 5 = 0 ↔ ∀ i, i < 5 → td_dg c i ≠ 7 := by
  constructor
  · intro h i hi z
    have := (td_lo_b c 5 i).mpr ⟨hi, z⟩
    rw [h, Nat.zero_testBit] at this
    exact absurd this (by decide)
  · intro h
    apply Nat.eq_of_testBit_eq
    intro i
    rw [Nat.zero_testBit]
    apply Bool.eq_false_iff.mpr
    intro z
    have := (td_lo_b c 5 i).mp z
    exact h i this.1 this.2
/-- a filling: a part filling that leaves nothing out -/
def td_fl (D C : Nat → Nat) (c : Nat) : Bool := td_ok D C c 5 && (td_lo c 5 == 0)
theorem td_fl_iff {D C : Nat → Nat} {c : Nat} : td_fl D C c = true ↔ td_ok D C c 5 = true ∧ ∀ i, i < 5 → td_dg c i ≠ 7 := by
  unfold td_fl
  rw [Bool.and_eq_true, beq_iff_eq, td_lo_0]
theorem td_fl_iff2 {D C : Nat → Nat} {c : Nat} : td_fl D C c = true ↔ ∀ i, i < 5 → td_dg c i ≠ 7 ∧ (D i).testBit (td_dg c i) = true ∧ td_cn c (i + 1) (td_dg c i) ≤ C (td_dg c i) := by
  rw [td_fl_iff, td_ok_iff]
  constructor
  · intro z i hi
    refine ⟨z.2 i hi, ?_⟩
    rcases z.1 i hi with q | q
    · exact absurd q (z.2 i hi)
    · exact q
  · intro z
    exact ⟨fun i hi => Or.inr (z i hi).2, fun i hi => (z i hi).1⟩
/-! folds over the choices below n -/
def td_ct (f : Nat → Bool) : Nat → Nat
  | 0 => 0
  | n + 1 => td_ct f n + if f n = true then 1 else 0
def td_or (f : Nat → Bool) (g : Nat → Nat) : Nat → Nat
  | 0 => 0
  | n + 1 => if f n = true then td_or f g n ||| g n else td_or f g n
def td_al (f : Nat → Bool) (g : Nat → Nat) : Nat → Nat
  | 0 => 127
  | n + 1 => if f n = true then td_al f g n &&& g n else td_al f g n
theorem td_ct_t {f : Nat → Bool} {n : Nat} (h : f n = true) : td_ct f (n + 1) = td_ct f n + 1 := by
  show td_ct f n + (if f n = true then 1 else 0) = _
  rw [if_pos h]
theorem td_ct_f {f : Nat → Bool} {n : Nat} (h : f n = false) : td_ct f (n + 1) = td_ct f n := by
  show td_ct f n + (if f n = true then 1 else 0) = _
  rw [if_neg (by rw [h]; decide), Nat.add_zero]
theorem td_or_t {f : Nat → Bool} {g : Nat → Nat} {n : Nat} (h : f n = true) : td_or f g (n + 1) = td_or f g n ||| g n := if_pos h
theorem td_or_f {f : Nat → Bool} {g : Nat → Nat} {n : Nat} (h : f n = false) : td_or f g (n + 1) = td_or f g n := if_neg (by rw [h]; decide)
theorem td_al_t {f : Nat → Bool} {g : Nat → Nat} {n : Nat} (h : f n = true) : td_al f g (n + 1) = td_al f g n &&& g n := if_pos h
theorem td_al_f {f : Nat → Bool} {g : Nat → Nat} {n : Nat} (h : f n = false) : td_al f g (n + 1) = td_al f g n := if_neg (by rw [h]; decide)
theorem td_ct_le (f : Nat → Bool) (n : Nat) : td_ct f n ≤ n := by
  induction n with
  | zero => exact Nat.le_refl 0
  | succ n ih =>
    cases h : f n
    · rw [td_ct_f h]; omega
    · rw [td_ct_t h]; omega
theorem td_ct_0 {f : Nat → Bool} {n : Nat} : td_ct f n = 0 ↔ ∀ c, c < n → f c = false := by
  induction n with
  | zero => exact ⟨fun _ c hc => absurd hc (Nat.not_lt_zero c), fun _ => rfl⟩
  | succ n ih =>
    cases h : f n
    · rw [td_ct_f h, ih]
      constructor
      · intro z c hc
        by_cases q : c < n
        · exact z c q
        · have e : c = n := by omega
          rw [e]; exact h
      · intro z c hc
        exact z c (by omega)
    · rw [td_ct_t h]
      constructor
      · intro z; omega
      · intro z
        have := z n (by omega)
        rw [h] at this
        exact absurd this (by decide)
theorem td_or_b {f : Nat → Bool} {g : Nat → Nat} {n : Nat} (i : Nat) : (td_or f g n).testBit i = true ↔ ∃ c, c < n ∧ f c = true ∧ (g c).testBit i = true := by
  induction n with
  | zero =>
    constructor
    · intro z
      rw [show td_or f g 0 = 0 from rfl, Nat.zero_testBit] at z
      exact absurd z (by decide)
    · intro ⟨c, hc, _⟩
      exact absurd hc (Nat.not_lt_zero c)
  | succ n ih =>
    cases h : f n
    · rw [td_or_f h, ih]
      constructor
      · intro ⟨c, hc, z⟩
        exact ⟨c, by omega, z⟩
      · intro ⟨c, hc, z⟩
        by_cases q : c < n
        · exact ⟨c, q, z⟩
        · have e : c = n := by omega
          rw [e, h] at z
          exact absurd z.1 (by decide)
    · rw [td_or_t h, Nat.testBit_or, Bool.or_eq_true, ih]
      constructor
      · intro z
        rcases z with ⟨c, hc, z⟩ | z
        · exact ⟨c, by omega, z⟩
        · exact ⟨n, by omega, h, z⟩
      · intro ⟨c, hc, z⟩
        by_cases q : c < n
        · exact Or.inl ⟨c, q, z⟩
        · have e : c = n := by omega
          rw [e] at z
          exact Or.inr z.2
theorem td_or_lt {f : Nat → Bool} {g : Nat → Nat} {k : Nat} (n : Nat) (h : ∀ c, c < n → f c = true → g c < 2 ^ k) : td_or f g n < 2 ^ k := by
  induction n with
  | zero => exact Nat.two_pow_pos k
  | succ n ih =>
    have h1 := ih (fun c hc => h c (by omega))
    cases q : f n
    · rw [td_or_f q]; exact h1
    · rw [td_or_t q]; exact Nat.or_lt_two_pow h1 (h n (by omega) q)
theorem td_al_lt {f : Nat → Bool} {g : Nat → Nat} (n : Nat) : td_al f g n < 128 := by
  induction n with
  | zero => exact (by decide : 127 < 128)
  | succ n ih =>
    cases q : f n
    · rw [td_al_f q]; exact ih
    · rw [td_al_t q]; exact Nat.lt_of_le_of_lt Nat.and_le_left ih
theorem td_or_cg {f f' : Nat → Bool} {g : Nat → Nat} (n : Nat) (h : ∀ c, c < n → f c = f' c) : td_or f g n = td_or f' g n := by
  induction n with
  | zero => rfl
  | succ n ih =>
    have h1 := ih (fun c hc => h c (by omega))
    have h2 := h n (by omega)
    show (if f n = true then td_or f g n ||| g n else td_or f g n) = (if f' n = true then td_or f' g n ||| g n else td_or f' g n)
    rw [h1, h2]
/-! what the reference's search has gathered when all choices below N are through -/
def td_ac (f : Nat → Bool) (g1 g2 : Nat → Nat) (N : Nat) (fi al ev : Int32) (fs su : Nat → Int32) : Prop :=
  fi = nI (td_ct f N) ∧ al = nI (td_al f g1 N) ∧ ev = nI (td_or f g2 N) ∧ (∀ i, i < 5 → su i = nI (td_or f (fun c => 2 ^ td_dg c i) N)) ∧ (∀ c, c < N → f c = true → (∀ b, b < c → f b = false) → ∀ i, i < 5 → fs i = nI (td_dg c i))
theorem td_ac_1 {f : Nat → Bool} {g1 g2 : Nat → Nat} {N : Nat} {fi al ev : Int32} {fs su : Nat → Int32} (h : td_ac f g1 g2 N fi al ev fs su) (hf : f N = false) : td_ac f g1 g2 (N + 1) fi al ev fs su := by
  obtain ⟨h1, h2, h3, h4, h5⟩ := h
  refine ⟨by rw [td_ct_f hf]; exact h1, by rw [td_al_f hf]; exact h2, by rw [td_or_f hf]; exact h3, fun i hi => by rw [td_or_f hf]; exact h4 i hi, fun c hc hfc hl => ?_⟩
  by_cases q : c < N
  · exact h5 c q hfc hl
  · have e : c = N := by omega
    rw [e, hf] at hfc
    exact absurd hfc (by decide)
theorem td_ac_d {f : Nat → Bool} {g1 g2 : Nat → Nat} {fi al ev : Int32} {fs su : Nat → Int32} : ∀ d N, td_ac f g1 g2 N fi al ev fs su → (∀ c, N ≤ c → c < N + d → f c = false) → td_ac f g1 g2 (N + d) fi al ev fs su := by
  intro d
  induction d with
  | zero => intro N h _; exact h
  | succ d ih =>
    intro N h hf
    exact td_ac_1 (ih N h (fun c h1 h2 => hf c h1 (by omega))) (hf (N + d) (by omega) (by omega))
theorem td_ac_to {f : Nat → Bool} {g1 g2 : Nat → Nat} {N M : Nat} {fi al ev : Int32} {fs su : Nat → Int32} (h : td_ac f g1 g2 N fi al ev fs su) (hM : N ≤ M) (hf : ∀ c, N ≤ c → c < M → f c = false) : td_ac f g1 g2 M fi al ev fs su := by
  have := td_ac_d (M - N) N h (fun c h1 h2 => hf c h1 (by omega))
  rw [show N + (M - N) = M from by omega] at this
  exact this
theorem td_ac_t {f : Nat → Bool} {g1 g2 : Nat → Nat} {N : Nat} {fi al ev : Int32} {fs su fs' su' : Nat → Int32} (h : td_ac f g1 g2 N fi al ev fs su) (hN : N < 32768) (hf : f N = true) (hs : ∀ i, i < 5 → su' i = su i ||| nI (2 ^ td_dg N i)) (hs' : ∀ i, i < 5 → fs' i = if fi = 0 then nI (td_dg N i) else fs i) : td_ac f g1 g2 (N + 1) (fi + 1) (al &&& nI (g1 N)) (ev ||| nI (g2 N)) fs' su' := by
  obtain ⟨h1, h2, h3, h4, h5⟩ := h
  have hb := td_ct_le f N
  refine ⟨by rw [td_ct_t hf, h1, nI_1], by rw [td_al_t hf, h2, nx_and], by rw [td_or_t hf, h3, td_nor], fun i hi => by rw [td_or_t hf, hs i hi, h4 i hi, td_nor], fun c hc hfc hl i hi => ?_⟩
  rw [hs' i hi]
  by_cases q : c < N
  · have hz : ¬ fi = 0 := by
      rw [h1]
      intro z
      rw [← nI_0, nI_eq (by omega) (by omega), td_ct_0] at z
      have := z c q
      rw [hfc] at this
      exact absurd this (by decide)
    rw [if_neg hz]
    exact h5 c q hfc hl i hi
  · have e : c = N := by omega
    subst e
    have hz : fi = 0 := by
      rw [h1, td_ct_0.mpr hl, nI_0]
    rw [if_pos hz]
end
section
/-! sizes, rooms; Hall's theorem with capacities over at most five places -/
def td_sz (s : Nat) : Nat → Nat
  | 0 => 0
  | k + 1 => td_sz s k + s / 2 ^ k % 2
theorem td_sz_s (s k : Nat) : td_sz s (k + 1) = td_sz s k + if s.testBit k = true then 1 else 0 := by
  rw [← td_tb]
  rfl
theorem td_sz_le (s k : Nat) : td_sz s k ≤ k := by
  induction k with
  | zero => exact Nat.le_refl 0
  | succ k ih =>
    show td_sz s k + s / 2 ^ k % 2 ≤ _
    have : s / 2 ^ k % 2 < 2 := Nat.mod_lt _ (by decide)
    omega
theorem td_hb {s k n : Nat} (h : s < 2 ^ n) (hk : n ≤ k) : s.testBit k = false := Nat.testBit_lt_two_pow (Nat.lt_of_lt_of_le h (Nat.pow_le_pow_right (by decide) hk))
theorem td_sz8 {s : Nat} (h : s < 128) : td_sz s 8 = td_sz s 7 := by
  have e := td_sz_s s 7
  rw [td_hb (k := 7) (n := 7) h (by omega), if_neg (by decide)] at e
  exact e
theorem td_sz5 {s : Nat} (h : s < 32) : td_sz s 7 = td_sz s 5 := by
  have e := td_sz_s s 6
  have e2 := td_sz_s s 5
  rw [td_hb (k := 6) (n := 5) h (by omega), if_neg (by decide)] at e
  rw [td_hb (k := 5) (n := 5) h (by omega), if_neg (by decide)] at e2
  exact e.trans e2
theorem td_t1 : ∀ S, S < 32 → ∀ T, T < 32 → S &&& T = S → td_sz (T ^^^ S) 7 + td_sz S 7 = td_sz T 7 := by decide +kernel
theorem td_t2 : ∀ S, S < 32 → ∀ T, T < 32 → S &&& T = 0 → td_sz (S ||| T) 7 = td_sz S 7 + td_sz T 7 := by decide +kernel
theorem td_t3 : ∀ S, S < 32 → S ≠ 0 → 0 < td_sz S 7 := by decide +kernel
theorem td_t4 : ∀ i, i < 5 → td_sz (2 ^ i) 7 = 1 ∧ 2 ^ i < 32 := by decide +kernel
theorem td_t5 : ∀ T, T < 32 → T ≠ 0 → T.testBit 0 = true ∨ T.testBit 1 = true ∨ T.testBit 2 = true ∨ T.testBit 3 = true ∨ T.testBit 4 = true := by decide +kernel
theorem td_t6 : ∀ S, S < 32 → ∀ T, T < 32 → S &&& T = S → td_sz S 7 ≤ td_sz T 7 := by decide +kernel
theorem td_t7 : ∀ T, T < 32 → ∀ i, i < 5 → T.testBit i = true → 2 ^ i &&& T = 2 ^ i := by decide +kernel
theorem td_sub {S T : Nat} (h : S &&& T = S) {i : Nat} (hi : S.testBit i = true) : T.testBit i = true := by
  rw [← h, Nat.testBit_and, Bool.and_eq_true] at hi
  exact hi.2
theorem td_sub_tr {S T U : Nat} (h : S &&& T = S) (h2 : T &&& U = T) : S &&& U = S := by
  rw [← h, Nat.and_assoc, h2]
theorem td_x0 {S T : Nat} (h : T ^^^ S = 0) : S = T := by
  apply Nat.eq_of_testBit_eq
  intro i
  have a : (T ^^^ S).testBit i = false := by rw [h, Nat.zero_testBit]
  rw [Nat.testBit_xor] at a
  revert a
  cases T.testBit i <;> cases S.testBit i <;> decide
theorem td_dj {S S' T : Nat} (h : S &&& T = S) (h2 : S' &&& (T ^^^ S) = S') : S &&& S' = 0 := by
  apply Nat.eq_of_testBit_eq
  intro i
  rw [Nat.zero_testBit, Nat.testBit_and]
  cases hS : S.testBit i
  · rfl
  · cases hS' : S'.testBit i
    · rfl
    · have a := td_sub h hS
      have b := td_sub h2 hS'
      rw [Nat.testBit_xor, hS, a] at b
      exact absurd b (by decide)
theorem td_un2 {S S' T : Nat} (h : S &&& T = S) (h2 : S' &&& (T ^^^ S) = S') : (S ||| S') &&& T = S ||| S' := by
  apply Nat.eq_of_testBit_eq
  intro i
  rw [Nat.testBit_and, Nat.testBit_or]
  cases hS : S.testBit i
  · cases hS' : S'.testBit i
    · rfl
    · have b := td_sub h2 hS'
      rw [Nat.testBit_xor, hS] at b
      rw [show T.testBit i = true from by revert b; cases T.testBit i <;> decide]
      rfl
  · rw [td_sub h hS]
    rfl
/-- value v is in the domain of one of the first n places of S -/
def td_ub (E : Nat → Nat → Bool) (S v : Nat) : Nat → Bool
  | 0 => false
  | i + 1 => td_ub E S v i || (S.testBit i && E i v)
theorem td_ub_iff {E : Nat → Nat → Bool} {S v : Nat} (n : Nat) : td_ub E S v n = true ↔ ∃ i, i < n ∧ S.testBit i = true ∧ E i v = true := by
  induction n with
  | zero =>
    constructor
    · intro z; exact absurd (show false = true from z) (by decide)
    · intro ⟨i, hi, _⟩; exact absurd hi (Nat.not_lt_zero i)
  | succ n ih =>
    show (td_ub E S v n || (S.testBit n && E n v)) = true ↔ _
    rw [Bool.or_eq_true, ih, Bool.and_eq_true]
    constructor
    · intro z
      rcases z with ⟨i, hi, z⟩ | z
      · exact ⟨i, by omega, z⟩
      · exact ⟨n, by omega, z⟩
    · intro ⟨i, hi, z⟩
      by_cases q : i < n
      · exact Or.inl ⟨i, q, z⟩
      · have e : i = n := by omega
        rw [e] at z
        exact Or.inr z
theorem td_ub_or {E : Nat → Nat → Bool} {S S' v : Nat} (n : Nat) : td_ub E (S ||| S') v n = (td_ub E S v n || td_ub E S' v n) := by
  induction n with
  | zero => rfl
  | succ n ih =>
    show (td_ub E (S ||| S') v n || ((S ||| S').testBit n && E n v)) = ((td_ub E S v n || (S.testBit n && E n v)) || (td_ub E S' v n || (S'.testBit n && E n v)))
    rw [ih, Nat.testBit_or]
    cases td_ub E S v n <;> cases td_ub E S' v n <;> cases S.testBit n <;> cases S'.testBit n <;> cases E n v <;> rfl
def td_rm (E : Nat → Nat → Bool) (C : Nat → Nat) (S : Nat) : Nat → Nat
  | 0 => 0
  | v + 1 => td_rm E C S v + if td_ub E S v 5 = true then C v else 0
theorem td_rm_s (E : Nat → Nat → Bool) (C : Nat → Nat) (S v : Nat) : td_rm E C S (v + 1) = td_rm E C S v + if td_ub E S v 5 = true then C v else 0 := rfl
theorem td_rm_un {E : Nat → Nat → Bool} {C : Nat → Nat} {S S' : Nat} (n : Nat) : td_rm E C (S ||| S') n = td_rm E C S n + td_rm E (fun v => if td_ub E S v 5 = true then 0 else C v) S' n := by
  induction n with
  | zero => rfl
  | succ n ih =>
    rw [td_rm_s, td_rm_s, td_rm_s, ih, td_ub_or]
    try dsimp only
    cases td_ub E S n 5 <;> cases td_ub E S' n 5 <;> simp <;> omega
theorem td_rm_pos {E : Nat → Nat → Bool} {C : Nat → Nat} {S : Nat} (n : Nat) (h : 0 < td_rm E C S n) : ∃ v, v < n ∧ td_ub E S v 5 = true ∧ 0 < C v := by
  induction n with
  | zero => exact absurd h (Nat.lt_irrefl 0)
  | succ n ih =>
    rw [td_rm_s] at h
    by_cases q : 0 < td_rm E C S n
    · obtain ⟨v, hv, z⟩ := ih q
      exact ⟨v, by omega, z⟩
    · by_cases u : td_ub E S n 5 = true
      · rw [if_pos u] at h
        exact ⟨n, by omega, u, by omega⟩
      · rw [if_neg u] at h
        omega
theorem td_rm_dec {E : Nat → Nat → Bool} {C : Nat → Nat} {S v : Nat} (n : Nat) : td_rm E C S n ≤ td_rm E (fun u => if u = v then C u - 1 else C u) S n + if v < n then 1 else 0 := by
  induction n with
  | zero => exact Nat.zero_le _
  | succ n ih =>
    rw [td_rm_s, td_rm_s]
    by_cases q : n = v
    · subst q
      rw [if_neg (Nat.lt_irrefl n)] at ih
      by_cases u : td_ub E S n 5 = true
      · simp [u] <;> omega
      · simp [u] <;> omega
    · rw [if_neg q]
      have e : (if v < n + 1 then 1 else 0) = (if v < n then 1 else 0) := by
        by_cases z : v < n
        · rw [if_pos z, if_pos (by omega)]
        · rw [if_neg z, if_neg (by omega)]
      rw [e]
      omega
/-- how many of the first n places of T have v by g -/
def td_nu (g : Nat → Nat) (T v : Nat) : Nat → Nat
  | 0 => 0
  | i + 1 => td_nu g T v i + if T.testBit i = true ∧ g i = v then 1 else 0
theorem td_nu_s (g : Nat → Nat) (T v i : Nat) : td_nu g T v (i + 1) = td_nu g T v i + if T.testBit i = true ∧ g i = v then 1 else 0 := rfl
theorem td_nu_0 {g : Nat → Nat} {T v : Nat} (n : Nat) (h : ∀ i, i < n → T.testBit i = true → g i ≠ v) : td_nu g T v n = 0 := by
  induction n with
  | zero => rfl
  | succ n ih =>
    rw [td_nu_s, ih (fun i hi => h i (by omega)), if_neg (fun z => h n (by omega) z.1 z.2)]
theorem td_nu_sp {g1 g2 : Nat → Nat} {S T v : Nat} (hS : S &&& T = S) (n : Nat) : td_nu (fun i => if S.testBit i = true then g1 i else g2 i) T v n = td_nu g1 S v n + td_nu g2 (T ^^^ S) v n := by
  induction n with
  | zero => rfl
  | succ n ih =>
    rw [td_nu_s, td_nu_s, td_nu_s, ih, Nat.testBit_xor]
    by_cases q : S.testBit n = true
    · have q2 := td_sub hS q
      rw [q, q2]
      simp <;> omega
    · have q3 : S.testBit n = false := Bool.eq_false_iff.mpr q
      rw [q3]
      simp <;> omega
theorem td_nu_ad {g : Nat → Nat} {T v w i : Nat} (hi : T.testBit i = true) (n : Nat) : td_nu (fun j => if j = i then w else g j) T v n ≤ td_nu g (T ^^^ 2 ^ i) v n + if i < n ∧ w = v then 1 else 0 := by
  induction n with
  | zero => exact Nat.zero_le _
  | succ n ih =>
    rw [td_nu_s, td_nu_s, Nat.testBit_xor, Nat.testBit_two_pow]
    by_cases q : n = i
    · subst q
      rw [if_neg (fun z => Nat.lt_irrefl n z.1)] at ih
      by_cases u : w = v
      · subst u
        simp [hi] <;> omega
      · simp [hi, u] <;> omega
    · rw [if_neg q, decide_eq_false (fun z => q z.symm), Bool.xor_false]
      have e : (if i < n + 1 ∧ w = v then 1 else 0) = (if i < n ∧ w = v then 1 else 0) := by
        by_cases z : i < n ∧ w = v
        · rw [if_pos z, if_pos ⟨by omega, z.2⟩]
        · rw [if_neg z, if_neg (fun y => z ⟨by omega, y.2⟩)]
      rw [e]
      omega
theorem td_hall (E : Nat → Nat → Bool) : ∀ n T, td_sz T 7 = n → T < 32 → ∀ C : Nat → Nat, (∀ S, S < 32 → S &&& T = S → td_sz S 7 ≤ td_rm E C S 8) → ∃ g : Nat → Nat, (∀ i, i < 5 → T.testBit i = true → g i < 8 ∧ E i (g i) = true) ∧ ∀ v, td_nu g T v 5 ≤ C v := by
  intro n
  induction n using Nat.strongRecOn with
  | _ n ih =>
    intro T hn hT C hC
    by_cases hT0 : T = 0
    · refine ⟨fun _ => 0, fun i _ hi => ?_, fun v => ?_⟩
      · rw [hT0, Nat.zero_testBit] at hi
        exact absurd hi (by decide)
      · rw [td_nu_0 5 (fun i _ hi => by rw [hT0, Nat.zero_testBit] at hi; exact absurd hi (by decide))]
        exact Nat.zero_le _
    · by_cases hB : ∃ S, S < 32 ∧ S &&& T = S ∧ S ≠ 0 ∧ S ≠ T ∧ td_sz S 7 = td_rm E C S 8
      · obtain ⟨S, hS, hST, hS0, hSn, hSt⟩ := hB
        have hX : T ^^^ S < 32 := Nat.xor_lt_two_pow (n := 5) hT hS
        have k1 := td_t1 S hS T hT hST
        have k2 := td_t3 S hS hS0
        have k3 : 0 < td_sz (T ^^^ S) 7 := td_t3 _ hX (fun z => hSn (td_x0 z))
        obtain ⟨g1, a1, b1⟩ := ih (td_sz S 7) (by omega) S rfl hS C (fun S' h1 h2 => hC S' h1 (td_sub_tr h2 hST))
        obtain ⟨g2, a2, b2⟩ := ih (td_sz (T ^^^ S) 7) (by omega) (T ^^^ S) rfl hX (fun v => if td_ub E S v 5 = true then 0 else C v) (fun S' h1 h2 => by
          have c1 := hC (S ||| S') (Nat.or_lt_two_pow (n := 5) hS h1) (td_un2 hST h2)
          rw [td_t2 S hS S' h1 (td_dj hST h2), td_rm_un] at c1
          omega)
        refine ⟨fun i => if S.testBit i = true then g1 i else g2 i, fun i hi hTi => ?_, fun v => ?_⟩
        · show (if S.testBit i = true then g1 i else g2 i) < 8 ∧ E i (if S.testBit i = true then g1 i else g2 i) = true
          by_cases q : S.testBit i = true
          · rw [if_pos q]
            exact a1 i hi q
          · rw [if_neg q]
            refine a2 i hi ?_
            rw [Nat.testBit_xor, hTi, Bool.eq_false_iff.mpr q]
            rfl
        · rw [td_nu_sp hST]
          by_cases q : td_ub E S v 5 = true
          · have t2 : td_nu g2 (T ^^^ S) v 5 ≤ if td_ub E S v 5 = true then 0 else C v := b2 v
            rw [if_pos q] at t2
            have t1 := b1 v
            omega
          · have t2 : td_nu g2 (T ^^^ S) v 5 ≤ if td_ub E S v 5 = true then 0 else C v := b2 v
            rw [if_neg q] at t2
            rw [td_nu_0 (g := g1) (T := S) (v := v) 5 (fun i hi hSi z => q ((td_ub_iff 5).mpr ⟨i, hi, hSi, by rw [← z]; exact (a1 i hi hSi).2⟩))]
            omega
      · have hi : ∃ i, i < 5 ∧ T.testBit i = true := by
          rcases td_t5 T hT hT0 with z | z | z | z | z
          · exact ⟨0, by omega, z⟩
          · exact ⟨1, by omega, z⟩
          · exact ⟨2, by omega, z⟩
          · exact ⟨3, by omega, z⟩
          · exact ⟨4, by omega, z⟩
        obtain ⟨i, hi, hTi⟩ := hi
        have k4 := td_t4 i hi
        have k7 := td_t7 T hT i hi hTi
        have c1 := hC (2 ^ i) k4.2 k7
        rw [k4.1] at c1
        obtain ⟨v, hv, hu, hCv⟩ := td_rm_pos 8 (show 0 < td_rm E C (2 ^ i) 8 from c1)
        have hE : E i v = true := by
          obtain ⟨j, _, hj, hEj⟩ := (td_ub_iff 5).mp hu
          rw [Nat.testBit_two_pow, decide_eq_true_eq] at hj
          rw [hj]
          exact hEj
        have hX : T ^^^ 2 ^ i < 32 := Nat.xor_lt_two_pow (n := 5) hT k4.2
        have k1 := td_t1 (2 ^ i) k4.2 T hT k7
        obtain ⟨g, a, b⟩ := ih (td_sz (T ^^^ 2 ^ i) 7) (by omega) (T ^^^ 2 ^ i) rfl hX (fun u => if u = v then C u - 1 else C u) (fun S h1 h2 => by
          by_cases hS0 : S = 0
          · rw [hS0]
            exact Nat.zero_le _
          · have hST : S &&& T = S := by
              have := td_un2 k7 h2
              exact td_sub_tr (show S &&& (2 ^ i ||| S) = S from by
                apply Nat.eq_of_testBit_eq
                intro j
                rw [Nat.testBit_and, Nat.testBit_or]
                cases S.testBit j <;> cases (2 ^ i).testBit j <;> rfl) this
            have d1 := hC S h1 hST
            have d2 : td_sz S 7 ≠ td_rm E C S 8 := by
              intro z
              refine hB ⟨S, h1, hST, hS0, ?_, z⟩
              intro y
              rw [y] at h2
              have := td_sub h2 hTi
              rw [Nat.testBit_xor, hTi, Nat.testBit_two_pow_self] at this
              exact absurd this (by decide)
            have d3 := td_rm_dec (E := E) (C := C) (S := S) (v := v) 8
            rw [if_pos hv] at d3
            omega)
        refine ⟨fun j => if j = i then v else g j, fun j hj hTj => ?_, fun u => ?_⟩
        · show (if j = i then v else g j) < 8 ∧ E j (if j = i then v else g j) = true
          by_cases q : j = i
          · rw [if_pos q, q]
            exact ⟨hv, hE⟩
          · rw [if_neg q]
            refine a j hj ?_
            rw [Nat.testBit_xor, hTj, Nat.testBit_two_pow_of_ne (fun z => q z.symm)]
            rfl
        · have d1 := td_nu_ad (g := g) (v := u) (w := v) hTi 5
          have d2 : td_nu g (T ^^^ 2 ^ i) u 5 ≤ if u = v then C u - 1 else C u := b u
          by_cases q : u = v
          · rw [if_pos q] at d2
            rw [if_pos ⟨hi, q.symm⟩] at d1
            rw [q] at d1 d2
            rw [q]
            omega
          · rw [if_neg q] at d2
            rw [if_neg (fun z => q z.2.symm)] at d1
            omega
end
section
/-! rooms as the code reckons them, and the greatest part filling -/
def td_un (D : Nat → Nat) (S : Nat) : Nat → Nat
  | 0 => 0
  | i + 1 => if S / 2 ^ i % 2 = 1 then td_un D S i ||| D i else td_un D S i
def td_sm (C : Nat → Nat) (U : Nat) : Nat → Nat
  | 0 => 0
  | v + 1 => if U / 2 ^ v % 2 = 1 then td_sm C U v + C v else td_sm C U v
def td_room (D C : Nat → Nat) (S : Nat) : Nat := td_sm C (td_un D S 5) 7
theorem td_un_t {D : Nat → Nat} {S i : Nat} (h : S / 2 ^ i % 2 = 1) : td_un D S (i + 1) = td_un D S i ||| D i := if_pos h
theorem td_un_f {D : Nat → Nat} {S i : Nat} (h : ¬ S / 2 ^ i % 2 = 1) : td_un D S (i + 1) = td_un D S i := if_neg h
theorem td_sm_t {C : Nat → Nat} {U v : Nat} (h : U / 2 ^ v % 2 = 1) : td_sm C U (v + 1) = td_sm C U v + C v := if_pos h
theorem td_sm_f {C : Nat → Nat} {U v : Nat} (h : ¬ U / 2 ^ v % 2 = 1) : td_sm C U (v + 1) = td_sm C U v := if_neg h
theorem td_un_lt {D : Nat → Nat} {S : Nat} (n : Nat) (h : ∀ i, i < n → D i < 128) : td_un D S n < 128 := by
  induction n with
  | zero => exact (by decide : 0 < 128)
  | succ n ih =>
    have h1 := ih (fun i hi => h i (by omega))
    by_cases q : S / 2 ^ n % 2 = 1
    · rw [td_un_t q]
      exact Nat.or_lt_two_pow (n := 7) h1 (h n (by omega))
    · rw [td_un_f q]
      exact h1
theorem td_sm_le {C : Nat → Nat} {U : Nat} (n : Nat) (h : ∀ v, v < n → C v ≤ 3) : td_sm C U n ≤ 3 * n := by
  induction n with
  | zero => exact Nat.le_refl 0
  | succ n ih =>
    have h1 := ih (fun i hi => h i (by omega))
    have h2 := h n (by omega)
    by_cases q : U / 2 ^ n % 2 = 1
    · rw [td_sm_t q]; omega
    · rw [td_sm_f q]; omega
theorem td_un_b {D : Nat → Nat} {S v : Nat} (n : Nat) : (td_un D S n).testBit v = td_ub (fun i u => (D i).testBit u) S v n := by
  induction n with
  | zero =>
    show (0 : Nat).testBit v = false
    exact Nat.zero_testBit v
  | succ n ih =>
    show _ = (td_ub (fun i u => (D i).testBit u) S v n || (S.testBit n && (D n).testBit v))
    by_cases q : S / 2 ^ n % 2 = 1
    · rw [td_un_t q, Nat.testBit_or, ih, td_tb1.mp q, Bool.true_and]
    · rw [td_un_f q, ih, Bool.eq_false_iff.mpr (fun z => q (td_tb1.mpr z)), Bool.false_and, Bool.or_false]
theorem td_ub_cg {E E' : Nat → Nat → Bool} {S v : Nat} (n : Nat) (h : ∀ i, i < n → E i v = E' i v) : td_ub E S v n = td_ub E' S v n := by
  induction n with
  | zero => rfl
  | succ n ih =>
    show (td_ub E S v n || (S.testBit n && E n v)) = (td_ub E' S v n || (S.testBit n && E' n v))
    rw [ih (fun i hi => h i (by omega)), h n (by omega)]
/-- the values and one more, number 7, that stands for being left out -/
def td_E (D : Nat → Nat) (i v : Nat) : Bool := v == 7 || (D i).testBit v
def td_C (C : Nat → Nat) (w v : Nat) : Nat := if v = 7 then w else C v
theorem td_rm_7 {D C : Nat → Nat} {w S : Nat} (n : Nat) (hn : n ≤ 7) : td_rm (td_E D) (td_C C w) S n = td_sm C (td_un D S 5) n := by
  induction n with
  | zero => rfl
  | succ n ih =>
    have h1 := ih (by omega)
    have h2 : td_ub (td_E D) S n 5 = (td_un D S 5).testBit n := by
      rw [td_un_b]
      refine td_ub_cg 5 (fun i _ => ?_)
      show (n == 7 || (D i).testBit n) = (D i).testBit n
      rw [show (n == 7) = false from beq_eq_false_iff_ne.mpr (by omega), Bool.false_or]
    have h3 : td_C C w n = C n := if_neg (by omega)
    rw [td_rm_s, h1, h2, h3]
    by_cases q : (td_un D S 5).testBit n = true
    · rw [if_pos q, td_sm_t (td_tb1.mpr q)]
    · rw [if_neg q, td_sm_f (fun z => q (td_tb1.mp z)), Nat.add_zero]
theorem td_rm_8 {D C : Nat → Nat} {w S : Nat} (hS : S < 32) (h0 : S ≠ 0) : td_rm (td_E D) (td_C C w) S 8 = td_room D C S + w := by
  rw [td_rm_s, td_rm_7 7 (by omega)]
  have h : td_ub (td_E D) S 7 5 = true := by
    rw [td_ub_iff]
    rcases td_t5 S hS h0 with z | z | z | z | z
    · exact ⟨0, by omega, z, rfl⟩
    · exact ⟨1, by omega, z, rfl⟩
    · exact ⟨2, by omega, z, rfl⟩
    · exact ⟨3, by omega, z, rfl⟩
    · exact ⟨4, by omega, z, rfl⟩
  rw [if_pos h]
  rfl
/-- the choice with given digits -/
def td_mk (g : Nat → Nat) : Nat := g 0 * 4096 + g 1 * 512 + g 2 * 64 + g 3 * 8 + g 4
theorem td_mk_lt {g : Nat → Nat} (h : ∀ i, i < 5 → g i < 8) : td_mk g < 32768 := by
  have h0 := h 0 (by omega)
  have h1 := h 1 (by omega)
  have h2 := h 2 (by omega)
  have h3 := h 3 (by omega)
  have h4 := h 4 (by omega)
  unfold td_mk
  omega
theorem td_mk_dg {g : Nat → Nat} (h : ∀ i, i < 5 → g i < 8) : ∀ i, i < 5 → td_dg (td_mk g) i = g i := by
  have h0 := h 0 (by omega)
  have h1 := h 1 (by omega)
  have h2 := h 2 (by omega)
  have h3 := h 3 (by omega)
  have h4 := h 4 (by omega)
  refine td_5 ?_ ?_ ?_ ?_ ?_
  · rw [td_dg0]; unfold td_mk; omega
  · rw [td_dg1]; unfold td_mk; omega
  · rw [td_dg2]; unfold td_mk; omega
  · rw [td_dg3]; unfold td_mk; omega
  · rw [td_dg4]; unfold td_mk; omega
/-- enough: a part filling within T that leaves out no more than w of T -/
theorem td_ex {D C : Nat → Nat} {T w : Nat} (hT : T < 32) (hw : ∀ S, S < 32 → S ≠ 0 → S &&& T = S → td_sz S 7 ≤ td_room D C S + w) : ∃ c, c < 32768 ∧ td_ok D C c 5 = true ∧ (∀ i, i < 5 → T.testBit i = false → td_dg c i = 7) ∧ td_sz (td_lo c 5) 7 + td_sz T 7 ≤ w + 5 := by
  obtain ⟨g, a, b⟩ := td_hall (td_E D) (td_sz T 7) T rfl hT (td_C C w) (fun S h1 h2 => by
    by_cases h0 : S = 0
    · rw [h0]
      exact Nat.zero_le _
    · rw [td_rm_8 h1 h0]
      exact hw S h1 h0 h2)
  have hg : ∀ i, i < 5 → (fun i => if T.testBit i = true then g i else 7) i < 8 := by
    intro i hi
    show (if T.testBit i = true then g i else 7) < 8
    by_cases q : T.testBit i = true
    · rw [if_pos q]; exact (a i hi q).1
    · rw [if_neg q]; decide
  have hd := td_mk_dg (g := fun i => if T.testBit i = true then g i else 7) hg
  have hlt := td_mk_lt (g := fun i => if T.testBit i = true then g i else 7) hg
  generalize td_mk (fun i => if T.testBit i = true then g i else 7) = c at hd hlt
  have hd1 : ∀ i, i < 5 → T.testBit i = true → td_dg c i = g i := fun i hi q => (hd i hi).trans (if_pos q)
  have hd2 : ∀ i, i < 5 → T.testBit i = false → td_dg c i = 7 := fun i hi q => (hd i hi).trans (if_neg (by rw [q]; decide))
  have hcn : ∀ v, v < 7 → ∀ n, n ≤ 5 → td_cn c n v = td_nu g T v n := by
    intro v hv n
    induction n with
    | zero => intro _; rfl
    | succ n ih =>
      intro hn
      rw [td_cn_s, td_nu_s, ih (by omega)]
      cases q : T.testBit n
      · rw [hd2 n (by omega) q, if_neg (by omega), if_neg (fun z => absurd z.1 (by decide))]
      · rw [hd1 n (by omega) q]
        by_cases u : g n = v
        · rw [if_pos u, if_pos ⟨rfl, u⟩]
        · rw [if_neg u, if_neg (fun z => u z.2)]
  have hlo : ∀ n, n ≤ 5 → td_sz (td_lo c 5) n + td_sz T n = td_nu g T 7 n + n := by
    intro n
    induction n with
    | zero => intro _; rfl
    | succ n ih =>
      intro hn
      have h1 := ih (by omega)
      rw [td_sz_s, td_sz_s, td_nu_s]
      cases q : T.testBit n
      · rw [if_pos ((td_lo_b c 5 n).mpr ⟨by omega, hd2 n (by omega) q⟩), if_neg (by decide), if_neg (fun z => absurd z.1 (by decide))]
        omega
      · rw [if_pos (rfl : true = true)]
        by_cases u : g n = 7
        · rw [if_pos ((td_lo_b c 5 n).mpr ⟨by omega, (hd1 n (by omega) q).trans u⟩), if_pos ⟨rfl, u⟩]
          omega
        · rw [if_neg (fun z => u ((hd1 n (by omega) q).symm.trans ((td_lo_b c 5 n).mp z).2)), if_neg (fun z => u z.2)]
          omega
  refine ⟨c, hlt, td_ok_of (fun i hi => ?_) (fun v hv => ?_), hd2, ?_⟩
  · cases q : T.testBit i
    · exact Or.inl (hd2 i hi q)
    · have h1 := (a i hi q).2
      rw [← hd1 i hi q] at h1
      have h2 : (td_dg c i == 7 || (D i).testBit (td_dg c i)) = true := h1
      rw [Bool.or_eq_true, beq_iff_eq] at h2
      exact h2
  · rw [hcn v hv 5 (by omega)]
    have := b v
    rw [show td_C C w v = C v from if_neg (by omega)] at this
    exact this
  · have h1 := hlo 5 (by omega)
    have h2 := b 7
    rw [show td_C C w 7 = w from if_pos rfl] at h2
    rw [td_sz5 (td_lo_lt c), td_sz5 hT]
    omega
/-! no more than that -/
def td_sg (f : Nat → Nat) : Nat → Nat
  | 0 => 0
  | v + 1 => td_sg f v + f v
theorem td_sg_s (f : Nat → Nat) (v : Nat) : td_sg f (v + 1) = td_sg f v + f v := rfl
theorem td_sg_add (f g : Nat → Nat) (n : Nat) : td_sg (fun v => f v + g v) n = td_sg f n + td_sg g n := by
  induction n with
  | zero => rfl
  | succ n ih =>
    rw [td_sg_s, td_sg_s, td_sg_s, ih]
    omega
theorem td_sg_0 (n : Nat) : td_sg (fun _ => 0) n = 0 := by
  induction n with
  | zero => rfl
  | succ n ih => rw [td_sg_s, ih]
theorem td_sg_1 (t : Bool) (x n : Nat) (hP : t = true) (hx : x < n) : 1 ≤ td_sg (fun v => if t = true ∧ x = v then 1 else 0) n := by
  induction n with
  | zero => exact absurd hx (Nat.not_lt_zero x)
  | succ n ih =>
    rw [td_sg_s]
    by_cases q : x = n
    · rw [if_pos ⟨hP, q⟩]
      exact Nat.le_add_left _ _
    · exact Nat.le_trans (ih (by omega)) (Nat.le_add_right _ _)
theorem td_nu_cn {c S v : Nat} (n : Nat) : td_nu (td_dg c) S v n ≤ td_cn c n v := by
  induction n with
  | zero => exact Nat.le_refl 0
  | succ n ih =>
    rw [td_nu_s, td_cn_s]
    by_cases q : td_dg c n = v
    · rw [if_pos q]
      by_cases u : S.testBit n = true
      · rw [if_pos ⟨u, q⟩]; omega
      · rw [if_neg (fun z => u z.1)]; omega
    · rw [if_neg q, if_neg (fun z => q z.2)]; omega
theorem td_sum {c S : Nat} (n : Nat) (hn : n ≤ 5) : td_sz (S ||| td_lo c 5) n ≤ td_sg (fun v => td_nu (td_dg c) S v n) 7 + td_sz (td_lo c 5) n := by
  induction n with
  | zero => exact Nat.zero_le _
  | succ n ih =>
    have h1 := ih (by omega)
    have e : td_sg (fun v => td_nu (td_dg c) S v (n + 1)) 7 = td_sg (fun v => td_nu (td_dg c) S v n) 7 + td_sg (fun v => if S.testBit n = true ∧ td_dg c n = v then 1 else 0) 7 := td_sg_add _ _ 7
    rw [td_sz_s, td_sz_s, e, Nat.testBit_or]
    by_cases q : (td_lo c 5).testBit n = true
    · rw [q, Bool.or_true, if_pos rfl]
      omega
    · have q2 : td_dg c n ≠ 7 := fun z => q ((td_lo_b c 5 n).mpr ⟨by omega, z⟩)
      have q3 := td_dg_lt c n
      rw [Bool.eq_false_iff.mpr q, Bool.or_false, if_neg (show ¬ false = true from by decide)]
      by_cases u : S.testBit n = true
      · have h2 := td_sg_1 (S.testBit n) (td_dg c n) 7 u (by omega)
        rw [if_pos u]
        omega
      · rw [if_neg u]
        omega
theorem td_sg_rm {D C : Nat → Nat} {c S : Nat} (h : td_ok D C c 5 = true) (n : Nat) (hn : n ≤ 7) : td_sg (fun v => td_nu (td_dg c) S v 5) n ≤ td_sm C (td_un D S 5) n := by
  induction n with
  | zero => exact Nat.le_refl 0
  | succ n ih =>
    have h1 := ih (by omega)
    rw [td_sg_s]
    by_cases q : (td_un D S 5).testBit n = true
    · rw [td_sm_t (td_tb1.mpr q)]
      have h2 := td_nu_cn (c := c) (S := S) (v := n) 5
      have h3 := td_ok_cn 5 h n (by omega)
      show _ + td_nu (td_dg c) S n 5 ≤ _
      omega
    · rw [td_sm_f (fun z => q (td_tb1.mp z))]
      have h2 : td_nu (td_dg c) S n 5 = 0 := by
        refine td_nu_0 5 (fun i hi hS z => q ?_)
        rw [td_un_b, td_ub_iff]
        refine ⟨i, hi, hS, ?_⟩
        rcases (td_ok_iff 5).mp h i hi with y | y
        · omega
        · rw [z] at y
          exact y.1
      show _ + td_nu (td_dg c) S n 5 ≤ _
      omega
theorem td_up {D C : Nat → Nat} {c S : Nat} (h : td_ok D C c 5 = true) (hS : S < 32) : td_sz (S ||| td_lo c 5) 7 ≤ td_room D C S + td_sz (td_lo c 5) 7 := by
  have hl := td_lo_lt c
  rw [td_sz5 (Nat.or_lt_two_pow (n := 5) hS hl), td_sz5 hl]
  exact Nat.le_trans (td_sum 5 (by omega)) (Nat.add_le_add_right (td_sg_rm h 7 (by omega)) _)
theorem td_or_sub (S T : Nat) : S &&& (S ||| T) = S := by
  apply Nat.eq_of_testBit_eq
  intro j
  rw [Nat.testBit_and, Nat.testBit_or]
  cases S.testBit j <;> cases T.testBit j <;> rfl
/-- what the reference finds: the worst lack of the sets within T -/
def td_W (D C : Nat → Nat) (T w : Nat) : Prop := (∀ S, S < 32 → S ≠ 0 → S &&& T = S → td_sz S 7 ≤ td_room D C S + w) ∧ (w = 0 ∨ ∃ S, S < 32 ∧ S ≠ 0 ∧ S &&& T = S ∧ td_sz S 7 = td_room D C S + w)
/-- what the class finds: the greatest number of places of a part filling -/
def td_M (D C : Nat → Nat) (m : Nat) : Prop := (∀ c, c < 32768 → td_ok D C c 5 = true → 5 ≤ m + td_sz (td_lo c 5) 7) ∧ ∃ c, c < 32768 ∧ td_ok D C c 5 = true ∧ m + td_sz (td_lo c 5) 7 = 5
theorem td_W_le {D C : Nat → Nat} {T w : Nat} (hT : T < 32) (h : td_W D C T w) : w ≤ td_sz T 7 := by
  rcases h.2 with z | ⟨S, a, _, b, e⟩
  · omega
  · have := td_t6 S a T hT b
    omega
theorem td_sz31 : td_sz 31 7 = 5 := by decide +kernel
theorem td_MW {D C : Nat → Nat} {m w : Nat} (hM : td_M D C m) (hW : td_W D C 31 w) : m + w = 5 := by
  obtain ⟨c, hc, hok, _, hs⟩ := td_ex (D := D) (C := C) (T := 31) (w := w) (by decide) hW.1
  rw [td_sz31] at hs
  have h1 := hM.1 c hc hok
  obtain ⟨c', hc', hok', hs'⟩ := hM.2
  rcases hW.2 with z | ⟨S, a, _, _, e⟩
  · omega
  · have h2 := td_up hok' a
    have h3 := td_t6 S a _ (Nat.or_lt_two_pow (n := 5) a (td_lo_lt c')) (td_or_sub S _)
    omega
theorem td_T4 : ∀ i, i < 5 → 31 ^^^ 2 ^ i < 32 ∧ td_sz (31 ^^^ 2 ^ i) 7 = 4 ∧ (31 ^^^ 2 ^ i).testBit i = false := by decide +kernel
theorem td_spare {D C : Nat → Nat} {m w wi i : Nat} (hi : i < 5) (hM : td_M D C m) (hW : td_W D C 31 w) (hWi : td_W D C (31 ^^^ 2 ^ i) wi) : (∃ c, c < 32768 ∧ td_sz (td_lo c 5) 7 = 5 - m ∧ td_ok D C c 5 = true ∧ td_dg c i = 7) ↔ w = wi + 1 := by
  have hmw := td_MW hM hW
  obtain ⟨t1, t2, t3⟩ := td_T4 i hi
  obtain ⟨c', hc', hok', ho', hs'⟩ := td_ex (D := D) (C := C) (T := 31 ^^^ 2 ^ i) (w := wi) t1 hWi.1
  have h1 := hM.1 c' hc' hok'
  have h2 := ho' i hi t3
  rw [t2] at hs'
  constructor
  · intro ⟨c, hc, hs, hok, hd⟩
    have hb : (td_lo c 5).testBit i = true := (td_lo_b c 5 i).mpr ⟨hi, hd⟩
    have k4 := td_t4 i hi
    have hge : wi + 1 ≤ td_sz (td_lo c 5) 7 := by
      have k7 := td_t7 _ (td_lo_lt c) i hi hb
      rcases hWi.2 with z | ⟨S, a, _, b, e⟩
      · have := td_t6 (2 ^ i) k4.2 _ (td_lo_lt c) k7
        omega
      · have u1 := td_up hok a
        have u2 : S &&& 2 ^ i = 0 := by
          apply Nat.eq_of_testBit_eq
          intro j
          rw [Nat.testBit_and, Nat.zero_testBit, Nat.testBit_two_pow]
          by_cases q : i = j
          · subst q
            cases y : S.testBit i
            · rfl
            · have := td_sub b y
              rw [t3] at this
              exact absurd this (by decide)
          · rw [decide_eq_false q, Bool.and_false]
        have u3 := td_t2 S a (2 ^ i) k4.2 u2
        have u4 := td_t6 (S ||| 2 ^ i) (Nat.or_lt_two_pow (n := 5) a k4.2) (S ||| td_lo c 5) (Nat.or_lt_two_pow (n := 5) a (td_lo_lt c)) (by
          apply Nat.eq_of_testBit_eq
          intro j
          rw [Nat.testBit_and, Nat.testBit_or, Nat.testBit_or, Nat.testBit_two_pow]
          by_cases q : i = j
          · subst q
            rw [hb]
            cases S.testBit i <;> simp
          · rw [decide_eq_false q]
            cases S.testBit j <;> cases (td_lo c 5).testBit j <;> rfl)
        omega
    omega
  · intro z
    refine ⟨c', hc', ?_, hok', h2⟩
    omega
end
section
/-! the search: steps of the number N of choices that are through -/
def td_q : Nat → Nat
  | 0 => 4096
  | 1 => 512
  | 2 => 64
  | 3 => 8
  | _ => 1
theorem td_q0 : td_q 0 = 4096 := rfl
theorem td_q1 : td_q 1 = 512 := rfl
theorem td_q2 : td_q 2 = 64 := rfl
theorem td_q3 : td_q 3 = 8 := rfl
theorem td_q4 : td_q 4 = 1 := rfl
theorem td_j0 {P : Nat → Prop} : ∀ j, j < 0 → P j := fun j hj => absurd hj (Nat.not_lt_zero j)
theorem td_j1 {P : Nat → Prop} (h0 : P 0) : ∀ j, j < 1 → P j := lt_s td_j0 h0
theorem td_j2 {P : Nat → Prop} (h0 : P 0) (h1 : P 1) : ∀ j, j < 2 → P j := lt_s (td_j1 h0) h1
theorem td_j3 {P : Nat → Prop} (h0 : P 0) (h1 : P 1) (h2 : P 2) : ∀ j, j < 3 → P j := lt_s (td_j2 h0 h1) h2
theorem td_j4 {P : Nat → Prop} (h0 : P 0) (h1 : P 1) (h2 : P 2) (h3 : P 3) : ∀ j, j < 4 → P j := lt_s (td_j3 h0 h1 h2) h3
theorem td_L1 : ∀ p, p < 5 → ∀ N v M : Nat, N < 32768 → N % td_q p = 0 → td_dg N p ≤ v → v ≤ 7 → M = N + (v - td_dg N p) * td_q p → M < 32768 ∧ M % td_q p = 0 ∧ td_dg M p = v ∧ (∀ j, j < p → td_dg M j = td_dg N j) ∧ N ≤ M ∧ ∀ c, N ≤ c → c < M → (∀ j, j < p → td_dg c j = td_dg N j) ∧ td_dg N p ≤ td_dg c p ∧ td_dg c p < v := by
  refine td_5 ?_ ?_ ?_ ?_ ?_
  · intro N v M hN hq hd hv hM
    rw [td_q0] at hq hM
    rw [td_dg0] at hd hM
    rw [td_q0, td_dg0]
    refine ⟨by omega, by omega, by omega, td_j0, by omega, fun c h1 h2 => ⟨td_j0, ?_, ?_⟩⟩
    · rw [td_dg0, td_dg0]; omega
    · rw [td_dg0]; omega
  · intro N v M hN hq hd hv hM
    rw [td_q1] at hq hM
    rw [td_dg1] at hd hM
    rw [td_q1, td_dg1]
    refine ⟨by omega, by omega, by omega, td_j1 (by rw [td_dg0, td_dg0]; omega), by omega, fun c h1 h2 => ⟨td_j1 (by rw [td_dg0, td_dg0]; omega), ?_, ?_⟩⟩
    · rw [td_dg1, td_dg1]; omega
    · rw [td_dg1]; omega
  · intro N v M hN hq hd hv hM
    rw [td_q2] at hq hM
    rw [td_dg2] at hd hM
    rw [td_q2, td_dg2]
    refine ⟨by omega, by omega, by omega, td_j2 (by rw [td_dg0, td_dg0]; omega) (by rw [td_dg1, td_dg1]; omega), by omega, fun c h1 h2 => ⟨td_j2 (by rw [td_dg0, td_dg0]; omega) (by rw [td_dg1, td_dg1]; omega), ?_, ?_⟩⟩
    · rw [td_dg2, td_dg2]; omega
    · rw [td_dg2]; omega
  · intro N v M hN hq hd hv hM
    rw [td_q3] at hq hM
    rw [td_dg3] at hd hM
    rw [td_q3, td_dg3]
    refine ⟨by omega, by omega, by omega, td_j3 (by rw [td_dg0, td_dg0]; omega) (by rw [td_dg1, td_dg1]; omega) (by rw [td_dg2, td_dg2]; omega), by omega, fun c h1 h2 => ⟨td_j3 (by rw [td_dg0, td_dg0]; omega) (by rw [td_dg1, td_dg1]; omega) (by rw [td_dg2, td_dg2]; omega), ?_, ?_⟩⟩
    · rw [td_dg3, td_dg3]; omega
    · rw [td_dg3]; omega
  · intro N v M hN hq hd hv hM
    rw [td_q4] at hq hM
    rw [td_dg4] at hd hM
    rw [td_q4, td_dg4]
    refine ⟨by omega, by omega, by omega, td_j4 (by rw [td_dg0, td_dg0]; omega) (by rw [td_dg1, td_dg1]; omega) (by rw [td_dg2, td_dg2]; omega) (by rw [td_dg3, td_dg3]; omega), by omega, fun c h1 h2 => ⟨td_j4 (by rw [td_dg0, td_dg0]; omega) (by rw [td_dg1, td_dg1]; omega) (by rw [td_dg2, td_dg2]; omega) (by rw [td_dg3, td_dg3]; omega), ?_, ?_⟩⟩
    · rw [td_dg4, td_dg4]; omega
    · rw [td_dg4]; omega
theorem td_L2 : ∀ p, p < 4 → ∀ M : Nat, M % td_q p = 0 → M % td_q (p + 1) = 0 ∧ td_dg M (p + 1) = 0 := by
  refine td_j4 ?_ ?_ ?_ ?_
  · intro M hq
    rw [td_q0] at hq
    exact ⟨by show M % td_q 1 = 0; rw [td_q1]; omega, by show td_dg M 1 = 0; rw [td_dg1]; omega⟩
  · intro M hq
    rw [td_q1] at hq
    exact ⟨by show M % td_q 2 = 0; rw [td_q2]; omega, by show td_dg M 2 = 0; rw [td_dg2]; omega⟩
  · intro M hq
    rw [td_q2] at hq
    exact ⟨by show M % td_q 3 = 0; rw [td_q3]; omega, by show td_dg M 3 = 0; rw [td_dg3]; omega⟩
  · intro M hq
    rw [td_q3] at hq
    exact ⟨by show M % td_q 4 = 0; rw [td_q4]; omega, by show td_dg M 4 = 0; rw [td_dg4]; omega⟩
theorem td_L3 : ∀ r, r < 4 → ∀ M M' : Nat, M < 32768 → M % td_q (r + 1) = 0 → td_dg M (r + 1) = 7 → td_dg M r < 7 → M' = M + td_q (r + 1) → M' < 32768 ∧ M' % td_q r = 0 ∧ td_dg M' r = td_dg M r + 1 ∧ (∀ j, j < r → td_dg M' j = td_dg M j) ∧ M ≤ M' ∧ ∀ c, M ≤ c → c < M' → (∀ j, j < r + 1 → td_dg c j = td_dg M j) ∧ td_dg c (r + 1) = 7 := by
  refine td_j4 ?_ ?_ ?_ ?_
  · intro M M' hN hq hd hr hM
    have hq : M % td_q 1 = 0 := hq
    have hd : td_dg M 1 = 7 := hd
    have hM : M' = M + td_q 1 := hM
    rw [td_q1] at hq hM
    rw [td_dg1] at hd
    rw [td_dg0] at hr
    rw [td_q0, td_dg0, td_dg0]
    refine ⟨by omega, by omega, by omega, td_j0, by omega, fun c h1 h2 => ⟨td_j1 (by rw [td_dg0, td_dg0]; omega), ?_⟩⟩
    show td_dg c 1 = 7
    rw [td_dg1]
    omega
  · intro M M' hN hq hd hr hM
    have hq : M % td_q 2 = 0 := hq
    have hd : td_dg M 2 = 7 := hd
    have hM : M' = M + td_q 2 := hM
    rw [td_q2] at hq hM
    rw [td_dg2] at hd
    rw [td_dg1] at hr
    rw [td_q1, td_dg1, td_dg1]
    refine ⟨by omega, by omega, by omega, td_j1 (by rw [td_dg0, td_dg0]; omega), by omega, fun c h1 h2 => ⟨td_j2 (by rw [td_dg0, td_dg0]; omega) (by rw [td_dg1, td_dg1]; omega), ?_⟩⟩
    show td_dg c 2 = 7
    rw [td_dg2]
    omega
  · intro M M' hN hq hd hr hM
    have hq : M % td_q 3 = 0 := hq
    have hd : td_dg M 3 = 7 := hd
    have hM : M' = M + td_q 3 := hM
    rw [td_q3] at hq hM
    rw [td_dg3] at hd
    rw [td_dg2] at hr
    rw [td_q2, td_dg2, td_dg2]
    refine ⟨by omega, by omega, by omega, td_j2 (by rw [td_dg0, td_dg0]; omega) (by rw [td_dg1, td_dg1]; omega), by omega, fun c h1 h2 => ⟨td_j3 (by rw [td_dg0, td_dg0]; omega) (by rw [td_dg1, td_dg1]; omega) (by rw [td_dg2, td_dg2]; omega), ?_⟩⟩
    show td_dg c 3 = 7
    rw [td_dg3]
    omega
  · intro M M' hN hq hd hr hM
    have hq : M % td_q 4 = 0 := hq
    have hd : td_dg M 4 = 7 := hd
    have hM : M' = M + td_q 4 := hM
    rw [td_q4] at hq hM
    rw [td_dg4] at hd
    rw [td_dg3] at hr
    rw [td_q3, td_dg3, td_dg3]
    refine ⟨by omega, by omega, by omega, td_j3 (by rw [td_dg0, td_dg0]; omega) (by rw [td_dg1, td_dg1]; omega) (by rw [td_dg2, td_dg2]; omega), by omega, fun c h1 h2 => ⟨td_j4 (by rw [td_dg0, td_dg0]; omega) (by rw [td_dg1, td_dg1]; omega) (by rw [td_dg2, td_dg2]; omega) (by rw [td_dg3, td_dg3]; omega), ?_⟩⟩
    show td_dg c 4 = 7
    rw [td_dg4]
    omega
theorem td_L30 {M : Nat} (hN : M < 32768) (hq : M % td_q 0 = 0) (hd : td_dg M 0 = 7) : M + td_q 0 = 32768 ∧ ∀ c, M ≤ c → c < M + td_q 0 → td_dg c 0 = 7 := by
  rw [td_q0] at hq
  rw [td_dg0] at hd
  rw [td_q0]
  refine ⟨by omega, fun c h1 h2 => ?_⟩
  rw [td_dg0]
  omega
theorem td_L4 {M : Nat} (hN : M < 32768) (hd : td_dg M 4 < 7) : M + 1 < 32768 ∧ td_dg (M + 1) 4 = td_dg M 4 + 1 ∧ ∀ j, j < 4 → td_dg (M + 1) j = td_dg M j := by
  rw [td_dg4] at hd
  rw [td_dg4, td_dg4]
  exact ⟨by omega, by omega, td_j4 (by rw [td_dg0, td_dg0]; omega) (by rw [td_dg1, td_dg1]; omega) (by rw [td_dg2, td_dg2]; omega) (by rw [td_dg3, td_dg3]; omega)⟩
theorem td_nf {D C : Nat → Nat} {c N p : Nat} (hp : p < 5) (h : ∀ j, j < p → td_dg c j = td_dg N j) (hx : ¬ (td_dg c p < 7 ∧ (D p).testBit (td_dg c p) = true ∧ td_cn N p (td_dg c p) < C (td_dg c p))) : td_fl D C c = false := by
  apply Bool.eq_false_iff.mpr
  intro z
  have y := td_fl_iff2.mp z p hp
  apply hx
  have l := td_dg_lt c p
  have e := y.2.2
  rw [td_cn_s, if_pos rfl, td_cn_eq h] at e
  exact ⟨by omega, y.2.1, by omega⟩
/-- the first p places of N are filled as they may be -/
def td_gp (D C : Nat → Nat) (N p : Nat) : Prop := ∀ j, j < p → td_dg N j ≠ 7 ∧ (D j).testBit (td_dg N j) = true ∧ td_cn N (j + 1) (td_dg N j) ≤ C (td_dg N j)
theorem td_gp_cg {D C : Nat → Nat} {N M p : Nat} (h : ∀ j, j < p → td_dg M j = td_dg N j) (g : td_gp D C N p) : td_gp D C M p := by
  intro j hj
  have e : td_cn M (j + 1) (td_dg N j) = td_cn N (j + 1) (td_dg N j) := td_cn_eq (fun i hi => h i (by omega)) _
  rw [h j hj, e]
  exact g j hj
theorem td_gp_s {D C : Nat → Nat} {M p : Nat} (g : td_gp D C M p) (h1 : td_dg M p < 7) (h2 : (D p).testBit (td_dg M p) = true) (h3 : td_cn M p (td_dg M p) < C (td_dg M p)) : td_gp D C M (p + 1) := by
  refine lt_s g ⟨by omega, h2, ?_⟩
  rw [td_cn_s, if_pos rfl]
  omega
theorem td_gp_d {D C : Nat → Nat} {M p : Nat} (g : td_gp D C M (p + 1)) : td_gp D C M p := fun j hj => g j (by omega)
theorem td_gp_5 {D C : Nat → Nat} {M : Nat} (g : td_gp D C M 5) : td_fl D C M = true := td_fl_iff2.mpr g
/-! supports, pruning, unused -/
def td_su (D C : Nat → Nat) (i : Nat) : Nat := td_or (td_fl D C) (fun c => 2 ^ td_dg c i) 32768
theorem td_su_b {D C : Nat → Nat} {i v : Nat} : (td_su D C i).testBit v = true ↔ ∃ c, c < 32768 ∧ td_fl D C c = true ∧ td_dg c i = v := by
  unfold td_su
  rw [td_or_b]
  constructor
  · intro ⟨c, a, b, e⟩
    rw [Nat.testBit_two_pow, decide_eq_true_eq] at e
    exact ⟨c, a, b, e⟩
  · intro ⟨c, a, b, e⟩
    refine ⟨c, a, b, ?_⟩
    rw [Nat.testBit_two_pow, decide_eq_true_eq]
    exact e
theorem td_fl_7 {D C : Nat → Nat} {c i : Nat} (h : td_fl D C c = true) (hi : i < 5) : td_dg c i < 7 := by
  have a := (td_fl_iff2.mp h i hi).1
  have b := td_dg_lt c i
  omega
theorem td_p7 {v : Nat} (h : v < 7) : 2 ^ v < 2 ^ 7 := Nat.pow_lt_pow_right (by decide) h
theorem td_sup_lt {D C : Nat → Nat} {i : Nat} (hi : i < 5) (n : Nat) : td_or (td_fl D C) (fun c => 2 ^ td_dg c i) n < 128 := td_or_lt (k := 7) n (fun _ _ h => td_p7 (td_fl_7 h hi))
theorem td_su_lt {D C : Nat → Nat} {i : Nat} (hi : i < 5) : td_su D C i < 128 := td_sup_lt hi 32768
theorem td_su_sub {D C : Nat → Nat} {i v : Nat} (hi : i < 5) (h : (td_su D C i).testBit v = true) : (D i).testBit v = true := by
  obtain ⟨c, _, b, e⟩ := td_su_b.mp h
  rw [← e]
  exact (td_fl_iff2.mp b i hi).2.1
theorem td_fl_cg {D D' C : Nat → Nat} (h1 : ∀ c, c < 32768 → td_fl D C c = true → ∀ i, i < 5 → (D' i).testBit (td_dg c i) = true) (h2 : ∀ i, i < 5 → ∀ v, (D' i).testBit v = true → (D i).testBit v = true) : ∀ c, c < 32768 → td_fl D' C c = td_fl D C c := by
  intro c hc
  apply Bool.eq_iff_iff.mpr
  constructor
  · intro z
    rw [td_fl_iff2] at z ⊢
    exact fun i hi => ⟨(z i hi).1, h2 i hi _ (z i hi).2.1, (z i hi).2.2⟩
  · intro z
    have y := h1 c hc z
    rw [td_fl_iff2] at z ⊢
    exact fun i hi => ⟨(z i hi).1, y i hi, (z i hi).2.2⟩
def td_Dk (D C : Nat → Nat) (k : Nat) : Nat → Nat := fun j => if j < k then td_su D C j else D j
theorem td_Dk_fl {D C : Nat → Nat} (k : Nat) : ∀ c, c < 32768 → td_fl (td_Dk D C k) C c = td_fl D C c := by
  refine td_fl_cg ?_ ?_
  · intro c hc h i hi
    show ((if i < k then td_su D C i else D i) : Nat).testBit (td_dg c i) = true
    by_cases q : i < k
    · rw [if_pos q]
      exact td_su_b.mpr ⟨c, hc, h, rfl⟩
    · rw [if_neg q]
      exact (td_fl_iff2.mp h i hi).2.1
  · intro i hi v h
    have h : ((if i < k then td_su D C i else D i) : Nat).testBit v = true := h
    by_cases q : i < k
    · rw [if_pos q] at h
      exact td_su_sub hi h
    · rw [if_neg q] at h
      exact h
theorem td_Dk_su {D C : Nat → Nat} (k i : Nat) : td_su (td_Dk D C k) C i = td_su D C i := td_or_cg 32768 (td_Dk_fl k)
theorem td_sz_cl {d s : Nat} (h : ∀ i, s.testBit i = true → d.testBit i = true) (n : Nat) (hn : n ≤ 7) : td_sz (d &&& (s ^^^ 127)) n + td_sz s n = td_sz d n := by
  induction n with
  | zero => rfl
  | succ n ih =>
    have h1 := ih (by omega)
    rw [td_sz_s, td_sz_s, td_sz_s, Nat.testBit_and, Nat.testBit_xor, td_127, decide_eq_true (show n < 7 from by omega)]
    cases q : s.testBit n
    · cases u : d.testBit n
      · simp <;> omega
      · simp <;> omega
    · rw [h n q]
      simp <;> omega
def td_us (D C : Nat → Nat) : Nat → Nat
  | 0 => 0
  | i + 1 => td_us D C i ||| td_su D C i
theorem td_us_b {D C : Nat → Nat} {v : Nat} (n : Nat) : (td_us D C n).testBit v = true ↔ ∃ i, i < n ∧ (td_su D C i).testBit v = true := by
  induction n with
  | zero =>
    constructor
    · intro z
      rw [show td_us D C 0 = 0 from rfl, Nat.zero_testBit] at z
      exact absurd z (by decide)
    · intro ⟨i, hi, _⟩
      exact absurd hi (Nat.not_lt_zero i)
  | succ n ih =>
    show (td_us D C n ||| td_su D C n).testBit v = true ↔ _
    rw [Nat.testBit_or, Bool.or_eq_true, ih]
    constructor
    · intro z
      rcases z with ⟨i, hi, z⟩ | z
      · exact ⟨i, by omega, z⟩
      · exact ⟨n, by omega, z⟩
    · intro ⟨i, hi, z⟩
      by_cases q : i < n
      · exact Or.inl ⟨i, q, z⟩
      · have e : i = n := by omega
        rw [e] at z
        exact Or.inr z
theorem td_cn_pos {c v : Nat} (n : Nat) : 0 < td_cn c n v ↔ ∃ i, i < n ∧ td_dg c i = v := by
  induction n with
  | zero =>
    constructor
    · intro z; exact absurd z (Nat.lt_irrefl 0)
    · intro ⟨i, hi, _⟩; exact absurd hi (Nat.not_lt_zero i)
  | succ n ih =>
    rw [td_cn_s]
    by_cases q : td_dg c n = v
    · rw [if_pos q]
      exact ⟨fun _ => ⟨n, by omega, q⟩, fun _ => by omega⟩
    · rw [if_neg q, Nat.add_zero, ih]
      constructor
      · intro ⟨i, hi, z⟩; exact ⟨i, by omega, z⟩
      · intro ⟨i, hi, z⟩
        by_cases u : i < n
        · exact ⟨i, u, z⟩
        · have e : i = n := by omega
          rw [e] at z
          exact absurd z q
def td_so (c n : Nat) : Nat := td_bs (fun v => decide (0 < td_cn c 5 v)) n
def td_fu (C : Nat → Nat) (c n : Nat) : Nat := td_bs (fun v => decide (0 < C v ∧ td_cn c 5 v = C v)) n
theorem td_ever {D C : Nat → Nat} : td_or (td_fl D C) (fun c => td_so c 7) 32768 = td_us D C 5 := by
  apply Nat.eq_of_testBit_eq
  intro v
  apply Bool.eq_iff_iff.mpr
  rw [td_or_b, td_us_b]
  constructor
  · intro ⟨c, a, b, e⟩
    have e : (td_bs (fun v => decide (0 < td_cn c 5 v)) 7).testBit v = true := e
    rw [td_bs_b, decide_eq_true_eq, td_cn_pos] at e
    obtain ⟨_, i, hi, z⟩ := e
    exact ⟨i, hi, td_su_b.mpr ⟨c, a, b, z⟩⟩
  · intro ⟨i, hi, z⟩
    obtain ⟨c, a, b, e⟩ := td_su_b.mp z
    refine ⟨c, a, b, ?_⟩
    show (td_bs (fun v => decide (0 < td_cn c 5 v)) 7).testBit v = true
    rw [td_bs_b, decide_eq_true_eq, td_cn_pos]
    exact ⟨by rw [← e]; exact td_fl_7 b hi, i, hi, e⟩
theorem td_us_lt {D C : Nat → Nat} (n : Nat) (hn : n ≤ 5) : td_us D C n < 128 := by
  induction n with
  | zero => exact (by decide : 0 < 128)
  | succ n ih => exact Nat.or_lt_two_pow (n := 7) (ih (by omega)) (td_su_lt (by omega))
/-! three bits for each value count its uses -/
def td_pk (f : Nat → Nat) : Nat := f 0 + 8 * f 1 + 64 * f 2 + 512 * f 3 + 4096 * f 4 + 32768 * f 5 + 262144 * f 6
theorem td_pk_lt {f : Nat → Nat} (h : ∀ v, f v ≤ 5) : td_pk f < 2097152 := by
  have h0 := h 0
  have h1 := h 1
  have h2 := h 2
  have h3 := h 3
  have h4 := h 4
  have h5 := h 5
  have h6 := h 6
  unfold td_pk
  omega
theorem td_pk_get {f : Nat → Nat} (h : ∀ v, f v ≤ 5) : ∀ v, v < 7 → td_pk f / 2 ^ (3 * v) % 8 = f v := by
  have h0 := h 0
  have h1 := h 1
  have h2 := h 2
  have h3 := h 3
  have h4 := h 4
  have h5 := h 5
  have h6 := h 6
  unfold td_pk
  refine td_7 ?_ ?_ ?_ ?_ ?_ ?_ ?_
  · show (f 0 + 8 * f 1 + 64 * f 2 + 512 * f 3 + 4096 * f 4 + 32768 * f 5 + 262144 * f 6) / 1 % 8 = f 0; omega
  · show (f 0 + 8 * f 1 + 64 * f 2 + 512 * f 3 + 4096 * f 4 + 32768 * f 5 + 262144 * f 6) / 8 % 8 = f 1; omega
  · show (f 0 + 8 * f 1 + 64 * f 2 + 512 * f 3 + 4096 * f 4 + 32768 * f 5 + 262144 * f 6) / 64 % 8 = f 2; omega
  · show (f 0 + 8 * f 1 + 64 * f 2 + 512 * f 3 + 4096 * f 4 + 32768 * f 5 + 262144 * f 6) / 512 % 8 = f 3; omega
  · show (f 0 + 8 * f 1 + 64 * f 2 + 512 * f 3 + 4096 * f 4 + 32768 * f 5 + 262144 * f 6) / 4096 % 8 = f 4; omega
  · show (f 0 + 8 * f 1 + 64 * f 2 + 512 * f 3 + 4096 * f 4 + 32768 * f 5 + 262144 * f 6) / 32768 % 8 = f 5; omega
  · show (f 0 + 8 * f 1 + 64 * f 2 + 512 * f 3 + 4096 * f 4 + 32768 * f 5 + 262144 * f 6) / 262144 % 8 = f 6; omega
theorem td_pk_add {c i : Nat} (h : td_dg c i < 7) : td_pk (td_cn c i) + 2 ^ (3 * td_dg c i) = td_pk (td_cn c (i + 1)) := by
  unfold td_pk
  rw [td_cn_s, td_cn_s, td_cn_s, td_cn_s, td_cn_s, td_cn_s, td_cn_s]
  revert h
  generalize td_dg c i = v
  revert v
  refine td_7 ?_ ?_ ?_ ?_ ?_ ?_ ?_
  · simp <;> omega
  · simp <;> omega
  · simp <;> omega
  · simp <;> omega
  · simp <;> omega
  · simp <;> omega
  · simp <;> omega
theorem td_pk_s7 {c i : Nat} (h : td_dg c i = 7) : td_pk (td_cn c (i + 1)) = td_pk (td_cn c i) := by
  unfold td_pk
  rw [td_cn_s, td_cn_s, td_cn_s, td_cn_s, td_cn_s, td_cn_s, td_cn_s, h]
  simp
end
section
/-! the class against the picture -/
def td_R (D C : Nat → Nat) (dm cp : Nat → Int32) : Prop := (∀ i, i < 5 → dm i = nI (D i) ∧ D i < 128) ∧ (∀ v, v < 7 → cp v = nI (C v) ∧ C v ≤ 3)
theorem tr_d {D C : Nat → Nat} {dm cp : Nat → Int32} (R : td_R D C dm cp) {i : Nat} (hi : i < 5) : dm (nI i).toNatClampNeg = nI (D i) := by
  rw [nI_clamp (by omega)]
  exact (R.1 i hi).1
theorem tr_c {D C : Nat → Nat} {dm cp : Nat → Int32} (R : td_R D C dm cp) {v : Nat} (hv : v < 7) : cp (nI v).toNatClampNeg = nI (C v) := by
  rw [nI_clamp (by omega)]
  exact (R.2 v hv).1
theorem tr_dl {D C : Nat → Nat} {dm cp : Nat → Int32} (R : td_R D C dm cp) {i : Nat} (hi : i < 5) : D i < 128 := (R.1 i hi).2
theorem tr_cl {D C : Nat → Nat} {dm cp : Nat → Int32} (R : td_R D C dm cp) {v : Nat} (hv : v < 7) : C v ≤ 3 := (R.2 v hv).2
theorem td_m4 {c : Nat} (h : c < 2 ^ 31) : ¬ nI c = -4 := by
  intro z
  have := nI_pos h
  rw [z] at this
  exact this (by decide)
theorem tx_pl1 {post : Int32 → Prop} {i : Nat} (hi : i < 5) (h : post 1) : wpX_isPlace post (nI i) := br_f (nI_pos (by omega)) (br_f (nI_ge (b := 5) hi (by decide)) h)
theorem tx_pl0 {post : Int32 → Prop} {x : Int32} (hx : x < 0 ∨ nI 5 ≤ x) (h : post 0) : wpX_isPlace post x := by
  by_cases q : x < 0
  · exact br_t q h
  · rcases hx with z | z
    · exact absurd z q
    · exact br_f q (br_t z h)
theorem tx_vl1 {post : Int32 → Prop} {i : Nat} (hi : i < 7) (h : post 1) : wpX_isValue post (nI i) := br_f (nI_pos (by omega)) (br_f (nI_ge (b := 7) hi (by decide)) h)
theorem tx_vl0 {post : Int32 → Prop} {x : Int32} (hx : x < 0 ∨ nI 7 ≤ x) (h : post 0) : wpX_isValue post x := by
  by_cases q : x < 0
  · exact br_t q h
  · rcases hx with z | z
    · exact absurd z q
    · exact br_f q (br_t z h)
theorem tx_in {post : Int32 → Prop} {m s : Nat} (hs : s < 2 ^ 31) (hm : m < 32) (h1 : s.testBit m = true → post 1) (h0 : s.testBit m = false → post 0) : wpX_isIn post (nI m) (nI s) := by
  unfold wpX_isIn
  rw [td_bit hs hm]
  by_cases q : s.testBit m = true
  · rw [td_tb1.mpr q]
    exact br_f (by decide) (h1 q)
  · have e : s / 2 ^ m % 2 = 0 := by
      have z : ¬ s / 2 ^ m % 2 = 1 := fun z => q (td_tb1.mp z)
      omega
    rw [e]
    exact br_t nI_0 (h0 (Bool.eq_false_iff.mpr q))
theorem tx_va {post : Int32 → Prop} {c i : Nat} (hc : c < 32768) (hi : i < 5) (h : post (nI (td_dg c i))) : wpX_valueAt post (nI c) (nI i) := by
  unfold wpX_valueAt
  rw [td_val hc i hi]
  exact h
theorem tx_pf {post : Int32 → Prop} {D C : Nat → Nat} {dm cp : Nat → Int32} {c : Nat} (R : td_R D C dm cp) (hc : c < 32768) (h1 : td_ok D C c 5 = true → post 1) (h0 : td_ok D C c 5 = false → post 0) : wpX_isPartFilling post (dm, cp) (nI c) := by
  show ∃ n4 : Nat, wX_isPartFilling_4 post (nI c) dm cp n4 0 0
  refine loop_0 (fun n i s => wX_isPartFilling_4 post (nI c) dm cp n s (nI i)) (fun i s => s = nI (td_pk (td_cn c i)) ∧ td_ok D C c i = true) 5 0 ⟨rfl, rfl⟩ ?_ ?_
  · intro n s hs
    exact br_t (by decide) (h1 hs.2)
  · intro n i s hi hs ih
    obtain ⟨hs, hok⟩ := hs
    have hd := td_dg_lt c i
    have hcn := td_cn_le c (i + 1) (td_dg c i)
    refine br_f (nI_ge (b := 5) hi (by decide)) (tx_va hc hi ?_)
    refine pk_eq (td_dg c i) 7 (fun h7 => ?_) (fun h7 => ?_)
    · exact nm_r (nI_1 i) (ih s ⟨by rw [td_pk_s7 h7]; exact hs, td_ok_s.mpr ⟨hok, Or.inl h7⟩⟩)
    · have hv : td_dg c i < 7 := by omega
      have e1 : s + ((1 : Int32) <<< ((3 * nI (td_dg c i)) &&& 31)) = nI (td_pk (td_cn c (i + 1))) := by
        rw [hs, td_cnt7 _ hv, td_sh1 (by omega), nI_add, td_pk_add hv]
      have hpk : td_pk (td_cn c (i + 1)) < 2097152 := td_pk_lt (fun v => Nat.le_trans (td_cn_le c (i + 1) v) (by omega))
      have e2 : (nI (td_pk (td_cn c (i + 1))) >>> ((3 * nI (td_dg c i)) &&& 31)) &&& 7 = nI (td_cn c (i + 1) (td_dg c i)) := by
        rw [td_cnt7 _ hv, td_shr (by omega) (by omega), td_and7 (Nat.lt_trans (td_lt1 (by omega)) (by decide)), td_pk_get (fun v => Nat.le_trans (td_cn_le c (i + 1) v) (by omega)) _ hv]
      have hbad : ∀ z : ¬ ((D i).testBit (td_dg c i) = true ∧ td_cn c (i + 1) (td_dg c i) ≤ C (td_dg c i)), td_ok D C c 5 = false := by
        intro z
        apply Bool.eq_false_iff.mpr
        intro y
        rcases (td_ok_iff 5).mp y i hi with q | q
        · exact h7 q
        · exact z q
      refine nm_r e1 (nm_r e2 ⟨vp_in_nI hi (by decide), ?_⟩)
      rw [tr_d R hi]
      have hdl := tr_dl R hi
      refine tx_in (by omega) (by omega) (fun hb => ?_) (fun hb => ?_)
      · refine br_f (by decide) ⟨vp_in_nI hv (by decide), ?_⟩
        rw [tr_c R hv]
        have hcl := tr_cl R hv
        exact pk_le (td_cn c (i + 1) (td_dg c i)) (C (td_dg c i)) (fun hl => nm_r (nI_1 i) (ih _ ⟨rfl, td_ok_s.mpr ⟨hok, Or.inr ⟨hb, hl⟩⟩⟩)) (fun hl => h0 (hbad (fun z => by omega)))
      · exact br_t rfl (h0 (hbad (fun z => by rw [hb] at z; exact absurd z.1 (by decide))))
theorem td_lo_t {c i : Nat} (h : td_dg c i = 7) : td_lo c (i + 1) = td_lo c i ||| 2 ^ i := if_pos (beq_iff_eq.mpr h)
theorem td_lo_f {c i : Nat} (h : td_dg c i ≠ 7) : td_lo c (i + 1) = td_lo c i := if_neg (fun z => h (beq_iff_eq.mp z))
theorem tx_lo {post : Int32 → Prop} {c : Nat} (hc : c < 32768) (h : post (nI (td_lo c 5))) : wpX_leftOut post (nI c) := by
  unfold wpX_leftOut
  refine loop_0 (fun n i s => wX_leftOut_4 post (nI c) n s (nI i)) (fun i s => s = nI (td_lo c i)) 5 0 rfl ?_ ?_
  · intro n s hs
    refine br_t (by decide) ?_
    have hs : s = nI (td_lo c 5) := hs
    rw [hs]
    exact h
  · intro n i s hi hs ih
    have hs : s = nI (td_lo c i) := hs
    have hd := td_dg_lt c i
    refine br_f (nI_ge (b := 5) hi (by decide)) (tx_va hc hi ?_)
    refine pk_eq (td_dg c i) 7 (fun h7 => ?_) (fun h7 => ?_)
    · have e : s ||| ((1 : Int32) <<< (nI i &&& 31)) = nI (td_lo c (i + 1)) := by
        rw [hs, td_sh1 (by omega), td_nor, td_lo_t h7]
      exact nm_r e (nm_r (nI_1 i) (ih _ rfl))
    · refine nm_r (nI_1 i) (ih s ?_)
      show s = nI (td_lo c (i + 1))
      rw [td_lo_f h7]
      exact hs
theorem tx_fl {post : Int32 → Prop} {D C : Nat → Nat} {dm cp : Nat → Int32} {c : Nat} (R : td_R D C dm cp) (hc : c < 32768) (h1 : td_fl D C c = true → post 1) (h0 : td_fl D C c = false → post 0) : wpX_isFilling post (dm, cp) (nI c) := by
  unfold wpX_isFilling
  dsimp only
  have hl := td_lo_lt c
  refine tx_pf R hc (fun a => br_f (by decide) (tx_lo hc ?_)) (fun a => br_t rfl (h0 ?_))
  · refine pk_eq (td_lo c 5) 0 (fun e => h1 ?_) (fun e => h0 ?_)
    · unfold td_fl
      rw [a, e]
      rfl
    · unfold td_fl
      rw [a, Bool.true_and]
      exact beq_eq_false_iff_ne.mpr e
  · unfold td_fl
    rw [a]
    rfl
theorem tx_ff {post : Int32 → Prop} {D C : Nat → Nat} {dm cp : Nat → Int32} (R : td_R D C dm cp) (h1 : ∀ c, c < 32768 → td_fl D C c = true → (∀ b, b < c → td_fl D C b = false) → post (nI c)) (h0 : (∀ c, c < 32768 → td_fl D C c = false) → post (-4)) : wpX_firstFilling post (dm, cp) := by
  show ∃ n2 : Nat, wX_firstFilling_2 post dm cp n2 0
  refine loop_0 (fun n i (_ : Unit) => wX_firstFilling_2 post dm cp n (nI i)) (fun i _ => ∀ b, b < i → td_fl D C b = false) 32768 () (fun b hb => absurd hb (Nat.not_lt_zero b)) ?_ ?_
  · intro n s hs
    exact br_t (by decide) (h0 hs)
  · intro n i s hi hs ih
    refine br_f (nI_ge (b := 32768) hi (by decide)) (tx_fl R hi (fun a => ?_) (fun a => ?_))
    · exact br_f (by decide) (h1 i hi a hs)
    · exact br_t rfl (nm_r (nI_1 i) (ih () (lt_s hs a)))
theorem tx_sz {post : Int32 → Prop} {s : Nat} (hs : s < 2 ^ 31) (h : post (nI (td_sz s 7))) : wpX_sizeOf post (nI s) := by
  unfold wpX_sizeOf
  refine loop_0 (fun n i x => wX_sizeOf_4 post (nI s) n x (nI i)) (fun i x => x = nI (td_sz s i)) 7 0 rfl ?_ ?_
  · intro n x hx
    refine br_t (by decide) ?_
    have hx : x = nI (td_sz s 7) := hx
    rw [hx]
    exact h
  · intro n i x hi hx ih
    have hx : x = nI (td_sz s i) := hx
    have e : x + ((nI s >>> (nI i &&& 31)) &&& 1) = nI (td_sz s (i + 1)) := by
      rw [hx, td_bit hs (by omega), nI_add]
      rfl
    exact br_f (nI_ge (b := 7) hi (by decide)) (nm_r e (nm_r (nI_1 i) (ih _ rfl)))
end
section
theorem td_all (D C : Nat → Nat) : td_ok D C 32767 5 = true ∧ td_sz (td_lo 32767 5) 7 = 5 := by
  constructor
  · rw [td_ok_iff]
    intro i hi
    exact Or.inl ((by decide : ∀ i, i < 5 → td_dg 32767 i = 7) i hi)
  · decide +kernel
theorem tx_most {post : Int32 → Prop} {D C : Nat → Nat} {dm cp : Nat → Int32} (R : td_R D C dm cp) (h : ∀ m, m ≤ 5 → td_M D C m → post (nI m)) : wpX_most post (dm, cp) := by
  show ∃ n4 : Nat, wX_most_4 post dm cp n4 0 0
  refine loop_0 (fun n i s => wX_most_4 post dm cp n s (nI i)) (fun i s => ∃ m, m ≤ 5 ∧ s = nI m ∧ (∀ c, c < i → td_ok D C c 5 = true → 5 ≤ m + td_sz (td_lo c 5) 7) ∧ (m = 0 ∨ ∃ c, c < i ∧ td_ok D C c 5 = true ∧ m + td_sz (td_lo c 5) 7 = 5)) 32768 0 ⟨0, by omega, rfl, fun c hc => absurd hc (Nat.not_lt_zero c), Or.inl rfl⟩ ?_ ?_
  · intro n s hs
    obtain ⟨m, h5, hs, ha, hb⟩ := hs
    refine br_t (by decide) ?_
    rw [hs]
    refine h m h5 ⟨ha, ?_⟩
    rcases hb with z | z
    · exact ⟨32767, by omega, (td_all D C).1, by rw [(td_all D C).2, z]⟩
    · exact z
  · intro n i s hi hs ih
    obtain ⟨m, h5, hs, ha, hb⟩ := hs
    refine br_f (nI_ge (b := 32768) hi (by decide)) (tx_pf R hi (fun a => ?_) (fun a => ?_))
    · have hl := td_lo_lt i
      have hz : td_sz (td_lo i 5) 7 ≤ 5 := by
        rw [td_sz5 hl]
        exact td_sz_le _ 5
      refine br_f (by decide) (tx_lo hi (tx_sz (by omega) ?_))
      refine nm_r (pk_sub (a := 5) hz) ?_
      rw [hs]
      refine pk_le (5 - td_sz (td_lo i 5) 7) m (fun hl => ?_) (fun hl => ?_)
      · refine nm_r (nI_1 i) (ih _ ⟨m, h5, rfl, lt_s ha (fun _ => by omega), ?_⟩)
        rcases hb with z | ⟨c, hc, z⟩
        · exact Or.inl z
        · exact Or.inr ⟨c, by omega, z⟩
      · refine nm_r (nI_1 i) (ih _ ⟨5 - td_sz (td_lo i 5) 7, by omega, rfl, lt_s (fun c hc hok => ?_) (fun _ => by omega), Or.inr ⟨i, by omega, a, by omega⟩⟩)
        have := ha c hc hok
        omega
    · refine br_t rfl (nm_r (nI_1 i) (ih _ ⟨m, h5, hs, lt_s ha (fun z => ?_), ?_⟩))
      · rw [a] at z
        exact absurd z (by decide)
      · rcases hb with z | ⟨c, hc, z⟩
        · exact Or.inl z
        · exact Or.inr ⟨c, by omega, z⟩
theorem tx_su {post : Int32 → Prop} {D C : Nat → Nat} {dm cp : Nat → Int32} {i : Nat} (R : td_R D C dm cp) (hi : i < 5) (h : post (nI (td_su D C i))) : wpX_support post (dm, cp) (nI i) := by
  unfold wpX_support
  dsimp only
  refine tx_pl1 hi (br_f (by decide) ?_)
  refine loop_0 (fun n k s => wX_support_13 post (nI i) dm cp n s (nI k)) (fun k s => s = nI (td_or (td_fl D C) (fun c => 2 ^ td_dg c i) k)) 32768 0 rfl ?_ ?_
  · intro n s hs
    refine br_t (by decide) ?_
    have hs : s = nI (td_su D C i) := hs
    rw [hs]
    exact h
  · intro n k s hk hs ih
    have hs : s = nI (td_or (td_fl D C) (fun c => 2 ^ td_dg c i) k) := hs
    refine br_f (nI_ge (b := 32768) hk (by decide)) (tx_fl R hk (fun a => ?_) (fun a => ?_))
    · refine br_f (by decide) (tx_va hk hi ?_)
      have hd := td_dg_lt k i
      have e : s ||| ((1 : Int32) <<< (nI (td_dg k i) &&& 31)) = nI (td_or (td_fl D C) (fun c => 2 ^ td_dg c i) (k + 1)) := by
        rw [hs, td_sh1 (by omega), td_nor, td_or_t a]
      exact nm_r e (nm_r (nI_1 k) (ih _ rfl))
    · refine br_t rfl (nm_r (nI_1 k) (ih s ?_))
      show s = nI (td_or (td_fl D C) (fun c => 2 ^ td_dg c i) (k + 1))
      rw [td_or_f a]
      exact hs
/-- how many values pruning takes out of the first n domains -/
def td_gn (D C : Nat → Nat) : Nat → Nat
  | 0 => 0
  | i + 1 => td_gn D C i + td_sz (D i &&& (td_su D C i ^^^ 127)) 7
theorem td_Dk_0 {D C : Nat → Nat} {dm cp : Nat → Int32} (R : td_R D C dm cp) : td_R (td_Dk D C 0) C dm cp := ⟨fun i hi => by rw [show td_Dk D C 0 i = D i from if_neg (Nat.not_lt_zero i)]; exact R.1 i hi, R.2⟩
theorem td_Dk_s {D C : Nat → Nat} {dm cp : Nat → Int32} {k : Nat} (hk : k < 5) (R : td_R (td_Dk D C k) C dm cp) : td_R (td_Dk D C (k + 1)) C (upd dm (nI k).toNatClampNeg (nI (td_su D C k))) cp := by
  rw [nI_clamp (show k < 2 ^ 31 from by omega)]
  refine ⟨fun i hi => ?_, R.2⟩
  by_cases q : i = k
  · subst q
    rw [pk_us, show td_Dk D C (i + 1) i = td_su D C i from if_pos (by omega)]
    exact ⟨rfl, td_su_lt hi⟩
  · rw [pk_un q]
    have e : td_Dk D C (k + 1) i = td_Dk D C k i := by
      show (if i < k + 1 then td_su D C i else D i) = (if i < k then td_su D C i else D i)
      by_cases z : i < k
      · rw [if_pos z, if_pos (by omega)]
      · rw [if_neg z, if_neg (by omega)]
    rw [e]
    exact R.1 i hi
theorem tx_prune {post : Int32 → SX → Prop} {D C : Nat → Nat} {dm cp : Nat → Int32} (R : td_R D C dm cp) (h0 : (∀ c, c < 32768 → td_fl D C c = false) → post (-4) (dm, cp)) (h1 : ∀ c, c < 32768 → td_fl D C c = true → ∀ dm', td_R (td_Dk D C 5) C dm' cp → post (nI (td_gn D C 5)) (dm', cp)) : wpX_prune post (dm, cp) := by
  unfold wpX_prune
  dsimp only
  refine tx_ff R (fun c hc hf _ => br_f (td_m4 (by omega)) ?_) (fun z => br_t rfl (h0 z))
  refine loop_0 (fun n k (s : Int32 × (Nat → Int32)) => wX_prune_16 post n s.1 (nI k) s.2 cp) (fun k s => s.1 = nI (td_gn D C k) ∧ td_R (td_Dk D C k) C s.2 cp) 5 (0, dm) ⟨rfl, td_Dk_0 R⟩ ?_ ?_
  · intro n s hs
    obtain ⟨g, d⟩ := s
    obtain ⟨hg, hd⟩ := hs
    have hg : g = nI (td_gn D C 5) := hg
    refine br_t (by decide) ?_
    show post g (d, cp)
    rw [hg]
    exact h1 c hc hf d hd
  · intro n k s hk hs ih
    obtain ⟨g, d⟩ := s
    obtain ⟨hg, hd⟩ := hs
    have hg : g = nI (td_gn D C k) := hg
    have hd : td_R (td_Dk D C k) C d cp := hd
    have hDk : td_Dk D C k k = D k := if_neg (Nat.lt_irrefl k)
    have hl := tr_dl hd hk
    rw [hDk] at hl
    refine br_f (nI_ge (b := 5) hk (by decide)) (tx_su hd hk ?_)
    rw [td_Dk_su]
    refine ⟨vp_in_nI hk (by decide), ?_⟩
    show wpX_sizeOf _ ((d (nI k).toNatClampNeg) &&& (nI (td_su D C k) ^^^ (-1)))
    rw [tr_d hd hk, hDk, td_clr hl]
    refine tx_sz (Nat.lt_of_le_of_lt Nat.and_le_left (by omega)) ?_
    have e : g + nI (td_sz (D k &&& (td_su D C k ^^^ 127)) 7) = nI (td_gn D C (k + 1)) := by
      rw [hg, nI_add]
      rfl
    exact nm_r e ⟨vp_in_nI hk (by decide), nm_e (nm_r (nI_1 k) (ih (_, _) ⟨rfl, td_Dk_s hk hd⟩))⟩
theorem tx_count {post : Int32 → Prop} {D C : Nat → Nat} {dm cp : Nat → Int32} (R : td_R D C dm cp) (h : post (nI (td_ct (td_fl D C) 32768))) : wpX_count post (dm, cp) := by
  show ∃ n4 : Nat, wX_count_4 post dm cp n4 0 0
  refine loop_0 (fun n k s => wX_count_4 post dm cp n s (nI k)) (fun k s => s = nI (td_ct (td_fl D C) k)) 32768 0 rfl ?_ ?_
  · intro n s hs
    refine br_t (by decide) ?_
    have hs : s = nI (td_ct (td_fl D C) 32768) := hs
    rw [hs]
    exact h
  · intro n k s hk hs ih
    have hs : s = nI (td_ct (td_fl D C) k) := hs
    refine br_f (nI_ge (b := 32768) hk (by decide)) (tx_fl R hk (fun a => ?_) (fun a => ?_))
    · have e : s + 1 = nI (td_ct (td_fl D C) (k + 1)) := by
        rw [hs, nI_1, td_ct_t a]
      exact br_f (by decide) (nm_r e (nm_r (nI_1 k) (ih _ rfl)))
    · refine br_t rfl (nm_r (nI_1 k) (ih s ?_))
      show s = nI (td_ct (td_fl D C) (k + 1))
      rw [td_ct_f a]
      exact hs
theorem tx_uses {post : Int32 → Prop} {c v : Nat} (hc : c < 32768) (hv : v < 7) (h : post (nI (td_cn c 5 v))) : wpX_usesOf post (nI c) (nI v) := by
  unfold wpX_usesOf
  refine loop_0 (fun n i s => wX_usesOf_4 post (nI c) (nI v) n s (nI i)) (fun i s => s = nI (td_cn c i v)) 5 0 rfl ?_ ?_
  · intro n s hs
    refine br_t (by decide) ?_
    have hs : s = nI (td_cn c 5 v) := hs
    rw [hs]
    exact h
  · intro n i s hi hs ih
    have hs : s = nI (td_cn c i v) := hs
    have hd := td_dg_lt c i
    refine br_f (nI_ge (b := 5) hi (by decide)) (tx_va hc hi ?_)
    refine pk_eq (td_dg c i) v (fun q => ?_) (fun q => ?_)
    · have e : s + 1 = nI (td_cn c (i + 1) v) := by
        rw [hs, nI_1, td_cn_s, if_pos q]
      exact nm_r e (nm_r (nI_1 i) (ih _ rfl))
    · refine nm_r (nI_1 i) (ih s ?_)
      show s = nI (td_cn c (i + 1) v)
      rw [td_cn_s, if_neg q]
      exact hs
theorem td_fu_t {C : Nat → Nat} {c v : Nat} (h : 0 < C v ∧ td_cn c 5 v = C v) : td_fu C c (v + 1) = td_fu C c v ||| 2 ^ v := if_pos (decide_eq_true h)
theorem td_fu_f {C : Nat → Nat} {c v : Nat} (h : ¬ (0 < C v ∧ td_cn c 5 v = C v)) : td_fu C c (v + 1) = td_fu C c v := if_neg (fun z => h (of_decide_eq_true z))
theorem tx_uu {post : Int32 → Prop} {D C : Nat → Nat} {dm cp : Nat → Int32} {c : Nat} (R : td_R D C dm cp) (hc : c < 32768) (h : post (nI (td_fu C c 7))) : wpX_usedUp post (dm, cp) (nI c) := by
  show ∃ n4 : Nat, wX_usedUp_4 post (nI c) dm cp n4 0 0
  refine loop_0 (fun n v s => wX_usedUp_4 post (nI c) dm cp n s (nI v)) (fun v s => s = nI (td_fu C c v)) 7 0 rfl ?_ ?_
  · intro n s hs
    refine br_t (by decide) ?_
    have hs : s = nI (td_fu C c 7) := hs
    rw [hs]
    exact h
  · intro n v s hv hs ih
    have hs : s = nI (td_fu C c v) := hs
    have hcl := tr_cl R hv
    have hcn := td_cn_le c 5 v
    refine br_f (nI_ge (b := 7) hv (by decide)) ⟨vp_in_nI hv (by decide), ?_⟩
    rw [tr_c R hv]
    have hkeep : ¬ (0 < C v ∧ td_cn c 5 v = C v) → s = nI (td_fu C c (v + 1)) := by
      intro z
      rw [td_fu_f z]
      exact hs
    refine pk_le (C v) 0 (fun q => ?_) (fun q => ?_)
    · exact nm_r (nI_1 v) (ih s (hkeep (fun z => by omega)))
    · refine tx_uses hc hv ⟨vp_in_nI hv (by decide), ?_⟩
      refine pk_eq (td_cn c 5 v) (C v) (fun e => ?_) (fun e => ?_)
      · have e2 : s ||| ((1 : Int32) <<< (nI v &&& 31)) = nI (td_fu C c (v + 1)) := by
          rw [hs, td_sh1 (by omega), td_nor, td_fu_t ⟨q, e⟩]
        exact nm_r e2 (nm_r (nI_1 v) (ih _ rfl))
      · exact nm_r (nI_1 v) (ih s (hkeep (fun z => e z.2)))
theorem tx_ex {post : Int32 → Prop} {D C : Nat → Nat} {dm cp : Nat → Int32} (R : td_R D C dm cp) (h0 : (∀ c, c < 32768 → td_fl D C c = false) → post (-4)) (h1 : ∀ c, c < 32768 → td_fl D C c = true → post (nI (td_al (td_fl D C) (fun c => td_fu C c 7) 32768))) : wpX_exhausted post (dm, cp) := by
  unfold wpX_exhausted
  dsimp only
  refine tx_ff R (fun c hc hf _ => br_f (td_m4 (by omega)) ?_) (fun z => br_t rfl (h0 z))
  refine loop_0 (fun n k s => wX_exhausted_17 post dm cp n s (nI k)) (fun k s => s = nI (td_al (td_fl D C) (fun c => td_fu C c 7) k)) 32768 127 rfl ?_ ?_
  · intro n s hs
    refine br_t (by decide) ?_
    have hs : s = nI (td_al (td_fl D C) (fun c => td_fu C c 7) 32768) := hs
    rw [hs]
    exact h1 c hc hf
  · intro n k s hk hs ih
    have hs : s = nI (td_al (td_fl D C) (fun c => td_fu C c 7) k) := hs
    refine br_f (nI_ge (b := 32768) hk (by decide)) (tx_fl R hk (fun a => ?_) (fun a => ?_))
    · refine br_f (by decide) (tx_uu R hk ?_)
      have e : s &&& nI (td_fu C k 7) = nI (td_al (td_fl D C) (fun c => td_fu C c 7) (k + 1)) := by
        rw [hs, nx_and, td_al_t a]
      exact nm_r e (nm_r (nI_1 k) (ih _ rfl))
    · refine br_t rfl (nm_r (nI_1 k) (ih s ?_))
      show s = nI (td_al (td_fl D C) (fun c => td_fu C c 7) (k + 1))
      rw [td_al_f a]
      exact hs
theorem tx_un {post : Int32 → Prop} {D C : Nat → Nat} {dm cp : Nat → Int32} (R : td_R D C dm cp) (h0 : (∀ c, c < 32768 → td_fl D C c = false) → post (-4)) (h1 : ∀ c, c < 32768 → td_fl D C c = true → post (127 &&& (nI (td_us D C 5) ^^^ (-1)))) : wpX_unused post (dm, cp) := by
  unfold wpX_unused
  dsimp only
  refine tx_ff R (fun c hc hf _ => br_f (td_m4 (by omega)) ?_) (fun z => br_t rfl (h0 z))
  refine loop_0 (fun n k s => wX_unused_16 post dm cp n s (nI k)) (fun k s => s = nI (td_us D C k)) 5 0 rfl ?_ ?_
  · intro n s hs
    refine br_t (by decide) ?_
    have hs : s = nI (td_us D C 5) := hs
    rw [hs]
    exact h1 c hc hf
  · intro n k s hk hs ih
    have hs : s = nI (td_us D C k) := hs
    have e : s ||| nI (td_su D C k) = nI (td_us D C (k + 1)) := by
      rw [hs, td_nor]
      rfl
    exact br_f (nI_ge (b := 5) hk (by decide)) (tx_su R hk (nm_r e (nm_r (nI_1 k) (ih _ rfl))))
theorem tx_room {post : Int32 → Prop} {D C : Nat → Nat} {dm cp : Nat → Int32} {S : Nat} (R : td_R D C dm cp) (hS : S < 32) (h : post (nI (td_room D C S))) : wpX_room post (dm, cp) (nI S) := by
  show ∃ n4 : Nat, wX_room_4 post (nI S) dm cp n4 0 0
  have hul : ∀ k, k ≤ 5 → td_un D S k < 128 := fun k hk => td_un_lt k (fun i hi => tr_dl R (by omega))
  refine loop_0 (fun n k s => wX_room_4 post (nI S) dm cp n s (nI k)) (fun k s => s = nI (td_un D S k)) 5 0 rfl ?_ ?_
  · intro n s hs
    have hs : s = nI (td_un D S 5) := hs
    have hu := hul 5 (by omega)
    rw [hs]
    refine br_t (by decide) ?_
    refine loop_0 (fun n v s => wX_room_37 post (nI (td_un D S 5)) dm cp n s (nI v)) (fun v s => s = nI (td_sm C (td_un D S 5) v)) 7 0 rfl ?_ ?_
    · intro n s hs
      refine br_t (by decide) ?_
      have hs : s = nI (td_room D C S) := hs
      rw [hs]
      exact h
    · intro n v s hv hs ih
      have hs : s = nI (td_sm C (td_un D S 5) v) := hs
      refine br_f (nI_ge (b := 7) hv (by decide)) (tx_in (by omega) (by omega) (fun a => ?_) (fun a => ?_))
      · refine br_f (by decide) ⟨vp_in_nI hv (by decide), ?_⟩
        have e : s + cp (nI v).toNatClampNeg = nI (td_sm C (td_un D S 5) (v + 1)) := by
          rw [tr_c R hv, hs, nI_add, td_sm_t (td_tb1.mpr a)]
        exact nm_r e (nm_r (nI_1 v) (ih _ rfl))
      · refine br_t rfl (nm_r (nI_1 v) (ih s ?_))
        show s = nI (td_sm C (td_un D S 5) (v + 1))
        rw [td_sm_f (fun z => by rw [td_tb1.mp z] at a; exact absurd a (by decide))]
        exact hs
  · intro n k s hk hs ih
    have hs : s = nI (td_un D S k) := hs
    refine br_f (nI_ge (b := 5) hk (by decide)) (tx_in (by omega) (by omega) (fun a => ?_) (fun a => ?_))
    · refine br_f (by decide) ⟨vp_in_nI hk (by decide), ?_⟩
      have e : s ||| dm (nI k).toNatClampNeg = nI (td_un D S (k + 1)) := by
        rw [tr_d R hk, hs, td_nor, td_un_t (td_tb1.mpr a)]
      exact nm_r e (nm_r (nI_1 k) (ih _ rfl))
    · refine br_t rfl (nm_r (nI_1 k) (ih s ?_))
      show s = nI (td_un D S (k + 1))
      rw [td_un_f (fun z => by rw [td_tb1.mp z] at a; exact absurd a (by decide))]
      exact hs
theorem td_room_le {D C : Nat → Nat} {dm cp : Nat → Int32} (R : td_R D C dm cp) (S : Nat) : td_room D C S ≤ 21 := td_sm_le 7 (fun v hv => tr_cl R hv)
theorem tx_lack {post : Int32 → Prop} {D C : Nat → Nat} {dm cp : Nat → Int32} (R : td_R D C dm cp) (h1 : ∀ k, k < 31 → td_room D C (k + 1) < td_sz (k + 1) 7 → (∀ j, j < k → td_sz (j + 1) 7 ≤ td_room D C (j + 1)) → post (nI (k + 1))) (h0 : (∀ j, j < 31 → td_sz (j + 1) 7 ≤ td_room D C (j + 1)) → post (-4)) : wpX_lack post (dm, cp) := by
  show ∃ n2 : Nat, wX_lack_2 post dm cp n2 1
  refine loop_0 (fun n k (_ : Unit) => wX_lack_2 post dm cp n (nI (k + 1))) (fun k _ => ∀ j, j < k → td_sz (j + 1) 7 ≤ td_room D C (j + 1)) 31 () (fun b hb => absurd hb (Nat.not_lt_zero b)) ?_ ?_
  · intro n s hs
    exact br_t (by decide) (h0 hs)
  · intro n k s hk hs ih
    have hr := td_room_le R (k + 1)
    have hz := td_sz_le (k + 1) 7
    refine br_f (nI_nlt (a := 31) (b := k + 1) (by omega) (by decide)) (tx_room R (by omega) (tx_sz (by omega) ?_))
    refine pk_le (td_sz (k + 1) 7) (td_room D C (k + 1)) (fun q => ?_) (fun q => ?_)
    · exact nm_r (nI_1 (k + 1)) (ih () (lt_s hs q))
    · exact h1 k hk q hs
/-- how many of the first n sets are tight -/
def td_tg (D C : Nat → Nat) : Nat → Nat
  | 0 => 0
  | k + 1 => td_tg D C k + if td_room D C (k + 1) = td_sz (k + 1) 7 then 1 else 0
theorem td_tg_s (D C : Nat → Nat) (k : Nat) : td_tg D C (k + 1) = td_tg D C k + if td_room D C (k + 1) = td_sz (k + 1) 7 then 1 else 0 := rfl
theorem tx_tight {post : Int32 → Prop} {D C : Nat → Nat} {dm cp : Nat → Int32} (R : td_R D C dm cp) (h : post (nI (td_tg D C 31))) : wpX_tight post (dm, cp) := by
  show ∃ n4 : Nat, wX_tight_4 post dm cp n4 0 1
  refine loop_0 (fun n k s => wX_tight_4 post dm cp n s (nI (k + 1))) (fun k s => s = nI (td_tg D C k)) 31 0 rfl ?_ ?_
  · intro n s hs
    refine br_t (by decide) ?_
    have hs : s = nI (td_tg D C 31) := hs
    rw [hs]
    exact h
  · intro n k s hk hs ih
    have hs : s = nI (td_tg D C k) := hs
    have hr := td_room_le R (k + 1)
    have hz := td_sz_le (k + 1) 7
    refine br_f (nI_nlt (a := 31) (b := k + 1) (by omega) (by decide)) (tx_room R (by omega) (tx_sz (by omega) ?_))
    refine pk_eq (td_room D C (k + 1)) (td_sz (k + 1) 7) (fun q => ?_) (fun q => ?_)
    · have e : s + 1 = nI (td_tg D C (k + 1)) := by
        rw [hs, nI_1, td_tg_s, if_pos q]
      exact nm_r e (nm_r (nI_1 (k + 1)) (ih _ rfl))
    · refine nm_r (nI_1 (k + 1)) (ih s ?_)
      show s = nI (td_tg D C (k + 1))
      rw [td_tg_s, if_neg q]
      exact hs
theorem tx_sp {post : Int32 → Prop} {D C : Nat → Nat} {dm cp : Nat → Int32} (R : td_R D C dm cp) (h : ∀ m s, m ≤ 5 → td_M D C m → s < 32 → (∀ i, i < 5 → (s.testBit i = true ↔ ∃ c, c < 32768 ∧ td_sz (td_lo c 5) 7 = 5 - m ∧ td_ok D C c 5 = true ∧ td_dg c i = 7)) → post (nI (td_sz s 7))) : wpX_spareable post (dm, cp) := by
  unfold wpX_spareable
  dsimp only
  refine tx_most R (fun m h5 hM => ?_)
  refine nm_r (pk_sub (a := 5) h5) ?_
  refine loop_0 (fun n k s => wX_spareable_11 post (nI (5 - m)) dm cp n s (nI k)) (fun k s => ∃ t, t < 32 ∧ s = nI t ∧ ∀ i, i < 5 → (t.testBit i = true ↔ ∃ c, c < k ∧ td_sz (td_lo c 5) 7 = 5 - m ∧ td_ok D C c 5 = true ∧ td_dg c i = 7)) 32768 0 ⟨0, by omega, rfl, fun i hi => ⟨fun z => by rw [Nat.zero_testBit] at z; exact absurd z (by decide), fun ⟨c, hc, _⟩ => absurd hc (Nat.not_lt_zero c)⟩⟩ ?_ ?_
  · intro n s hs
    obtain ⟨t, ht, hs, hb⟩ := hs
    rw [hs]
    exact br_t (by decide) (tx_sz (by omega) (h m t h5 hM ht hb))
  · intro n k s hk hs ih
    obtain ⟨t, ht, hs, hb⟩ := hs
    have hl := td_lo_lt k
    have hz := td_sz_le (td_lo k 5) 7
    have hkeep : ¬ (td_sz (td_lo k 5) 7 = 5 - m ∧ td_ok D C k 5 = true) → ∀ i, i < 5 → (t.testBit i = true ↔ ∃ c, c < k + 1 ∧ td_sz (td_lo c 5) 7 = 5 - m ∧ td_ok D C c 5 = true ∧ td_dg c i = 7) := by
      intro z i hi
      rw [hb i hi]
      constructor
      · intro ⟨c, hc, y⟩
        exact ⟨c, by omega, y⟩
      · intro ⟨c, hc, y⟩
        by_cases q : c < k
        · exact ⟨c, q, y⟩
        · have e : c = k := by omega
          rw [e] at y
          exact absurd ⟨y.1, y.2.1⟩ z
    refine br_f (nI_ge (b := 32768) hk (by decide)) (tx_lo hk (tx_sz (by omega) ?_))
    refine pk_eq (td_sz (td_lo k 5) 7) (5 - m) (fun q => ?_) (fun q => ?_)
    · refine tx_pf R hk (fun a => ?_) (fun a => ?_)
      · have e : s ||| nI (td_lo k 5) = nI (t ||| td_lo k 5) := by
          rw [hs, td_nor]
        refine br_f (by decide) (nm_r e (nm_r (nI_1 k) (ih _ ⟨t ||| td_lo k 5, Nat.or_lt_two_pow (n := 5) ht hl, rfl, fun i hi => ?_⟩)))
        rw [Nat.testBit_or, Bool.or_eq_true, hb i hi, td_lo_b]
        constructor
        · intro z
          rcases z with ⟨c, hc, y⟩ | z
          · exact ⟨c, by omega, y⟩
          · exact ⟨k, by omega, q, a, z.2⟩
        · intro ⟨c, hc, y⟩
          by_cases u : c < k
          · exact Or.inl ⟨c, u, y⟩
          · have e : c = k := by omega
            rw [e] at y
            exact Or.inr ⟨hi, y.2.2⟩
      · exact br_t rfl (nm_r (nI_1 k) (ih s ⟨t, ht, hs, hkeep (fun z => by rw [a] at z; exact absurd z.2 (by decide))⟩))
    · exact nm_r (nI_1 k) (ih s ⟨t, ht, hs, hkeep (fun z => q z.1)⟩)
theorem tx_ms {post : Int32 → Prop} {D C : Nat → Nat} {dm cp : Nat → Int32} (R : td_R D C dm cp) (h0 : ∀ i, i < 5 → D i = 0 → post (-4)) (h1 : (∀ i, i < 5 → D i ≠ 0) → ∀ m, m ≤ 5 → td_M D C m → post (nI (5 - m))) : wpX_missing post (dm, cp) := by
  show ∃ n2 : Nat, wX_missing_2 post dm cp n2 0
  refine loop_0 (fun n k (_ : Unit) => wX_missing_2 post dm cp n (nI k)) (fun k _ => ∀ j, j < k → D j ≠ 0) 5 () (fun b hb => absurd hb (Nat.not_lt_zero b)) ?_ ?_
  · intro n s hs
    refine br_t (by decide) (tx_most R (fun m h5 hM => ?_))
    show post (nI 5 - nI m)
    rw [pk_sub h5]
    exact h1 hs m h5 hM
  · intro n k s hk hs ih
    have hl := tr_dl R hk
    refine br_f (nI_ge (b := 5) hk (by decide)) ⟨vp_in_nI hk (by decide), ?_⟩
    rw [tr_d R hk]
    refine pk_eq (D k) 0 (fun q => h0 k hk q) (fun q => ?_)
    exact nm_r (nI_1 k) (ih () (lt_s hs q))
end
section
/-! the reference against the picture: small walks -/
theorem td_lk {b r w : Nat} (hb : b < 100) (hr : r < 100) (hw : w < 100) : nI b - nI r ≤ nI w ↔ b ≤ r + w := by
  rw [Int32.le_iff_toInt_le, pk_sub_toInt (by omega) (by omega), nI_toInt (by omega)]
  omega
theorem td_t8 : ∀ S, S < 32 → ∀ T, T < 32 → (S &&& (T ^^^ 127) = 0 ↔ S &&& T = S) := by decide +kernel
section
variable {fi al ev : Int32} {dm cp gv us fs su : Nat → Int32} {D C : Nat → Nat} {post : Int32 → Prop}
theorem ty_pl1 {i : Nat} (hi : i < 5) (h : post 1) : wpY_isPlace post (fi, al, ev, dm, cp, gv, us, fs, su) (nI i) := br_f (nI_pos (by omega)) (br_f (nI_nlt (a := 4) (b := i) (by omega) (by decide)) h)
theorem ty_pl0 {x : Int32} (hx : x < 0 ∨ nI 5 ≤ x) (h : post 0) : wpY_isPlace post (fi, al, ev, dm, cp, gv, us, fs, su) x := by
  by_cases q : x < 0
  · exact br_t q h
  · rcases hx with z | z
    · exact absurd z q
    · exact br_f q (br_t (Int32.lt_of_lt_of_le (by decide) z) h)
theorem ty_vl1 {i : Nat} (hi : i < 7) (h : post 1) : wpY_isValue post (fi, al, ev, dm, cp, gv, us, fs, su) (nI i) := br_f (nI_pos (by omega)) (br_f (nI_nlt (a := 6) (b := i) (by omega) (by decide)) h)
theorem ty_vl0 {x : Int32} (hx : x < 0 ∨ nI 7 ≤ x) (h : post 0) : wpY_isValue post (fi, al, ev, dm, cp, gv, us, fs, su) x := by
  by_cases q : x < 0
  · exact br_t q h
  · rcases hx with z | z
    · exact absurd z q
    · exact br_f q (br_t (Int32.lt_of_lt_of_le (by decide) z) h)
theorem ty_bits {s : Nat} (hs : s < 128) (h : post (nI (td_sz s 7))) : wpY_bits post (fi, al, ev, dm, cp, gv, us, fs, su) (nI s) := by
  show ∃ n4 : Nat, wY_bits_4 post (nI s) fi al ev dm cp gv us fs su n4 0 0
  refine loop_0 (fun n i x => wY_bits_4 post (nI s) fi al ev dm cp gv us fs su n x (nI i)) (fun i x => x = nI (td_sz s i)) 8 0 rfl ?_ ?_
  · intro n x hx
    refine br_t (by decide) ?_
    have hx : x = nI (td_sz s 8) := hx
    rw [hx, td_sz8 hs]
    exact h
  · intro n i x hi hx ih
    have hx : x = nI (td_sz s i) := hx
    have e : x + ((nI s >>> (nI i &&& 31)) &&& 1) = nI (td_sz s (i + 1)) := by
      rw [hx, td_bit (by omega) (by omega), nI_add]
      rfl
    exact br_f (nI_ge (b := 8) hi (by decide)) (nm_r e (nm_r (nI_1 i) (ih _ rfl)))
theorem ty_room {S : Nat} (R : td_R D C dm cp) (hS : S < 32) (h : post (nI (td_room D C S))) : wpY_room post (fi, al, ev, dm, cp, gv, us, fs, su) (nI S) := by
  show ∃ n4 : Nat, wY_room_4 post (nI S) fi al ev dm cp gv us fs su n4 0 0
  have hul : ∀ k, k ≤ 5 → td_un D S k < 128 := fun k hk => td_un_lt k (fun i hi => tr_dl R (by omega))
  refine loop_0 (fun n k s => wY_room_4 post (nI S) fi al ev dm cp gv us fs su n s (nI k)) (fun k s => s = nI (td_un D S k)) 5 0 rfl ?_ ?_
  · intro n s hs
    have hs : s = nI (td_un D S 5) := hs
    have hu := hul 5 (by omega)
    rw [hs]
    refine br_t (by decide) ?_
    refine loop_0 (fun n v s => wY_room_42 post (nI (td_un D S 5)) fi al ev dm cp gv us fs su n s (nI v)) (fun v s => s = nI (td_sm C (td_un D S 5) v)) 7 0 rfl ?_ ?_
    · intro n s hs
      refine br_t (by decide) ?_
      have hs : s = nI (td_room D C S) := hs
      rw [hs]
      exact h
    · intro n v s hv hs ih
      have hs : s = nI (td_sm C (td_un D S 5) v) := hs
      refine br_f (nI_ge (b := 7) hv (by decide)) (pk_eq (td_un D S 5 / 2 ^ v % 2) 1 (fun a => ?_) (fun a => ?_) (td_bit (by omega) (by omega)))
      · refine ⟨vp_in_nI hv (by decide), ?_⟩
        have e : s + cp (nI v).toNatClampNeg = nI (td_sm C (td_un D S 5) (v + 1)) := by
          rw [tr_c R hv, hs, nI_add, td_sm_t a]
        exact nm_r e (nm_r (nI_1 v) (ih _ rfl))
      · refine nm_r (nI_1 v) (ih s ?_)
        show s = nI (td_sm C (td_un D S 5) (v + 1))
        rw [td_sm_f a]
        exact hs
  · intro n k s hk hs ih
    have hs : s = nI (td_un D S k) := hs
    refine br_f (nI_ge (b := 5) hk (by decide)) (pk_eq (S / 2 ^ k % 2) 1 (fun a => ?_) (fun a => ?_) (td_bit (by omega) (by omega)))
    · refine ⟨vp_in_nI hk (by decide), ?_⟩
      have e : s ||| dm (nI k).toNatClampNeg = nI (td_un D S (k + 1)) := by
        rw [tr_d R hk, hs, td_nor, td_un_t a]
      exact nm_r e (nm_r (nI_1 k) (ih _ rfl))
    · refine nm_r (nI_1 k) (ih s ?_)
      show s = nI (td_un D S (k + 1))
      rw [td_un_f a]
      exact hs
theorem ty_mo {T : Nat} (R : td_R D C dm cp) (hT : T < 32) (h : ∀ w, w ≤ td_sz T 7 → td_W D C T w → post (nI (td_sz T 7 - w))) : wpY_mostOf post (fi, al, ev, dm, cp, gv, us, fs, su) (nI T) := by
  show ∃ n4 : Nat, wY_mostOf_4 post (nI T) fi al ev dm cp gv us fs su n4 0 1
  refine loop_0 (fun n k s => wY_mostOf_4 post (nI T) fi al ev dm cp gv us fs su n s (nI (k + 1))) (fun k s => ∃ w, w ≤ 7 ∧ s = nI w ∧ (∀ S, S < k + 1 → S ≠ 0 → S &&& T = S → td_sz S 7 ≤ td_room D C S + w) ∧ (w = 0 ∨ ∃ S, S < k + 1 ∧ S ≠ 0 ∧ S &&& T = S ∧ td_sz S 7 = td_room D C S + w)) 31 0 ⟨0, by omega, rfl, fun S hS h0 => absurd (Nat.lt_one_iff.mp hS) h0, Or.inl rfl⟩ ?_ ?_
  · intro n s hs
    obtain ⟨w, h7, hs, ha, hb⟩ := hs
    have hW : td_W D C T w := ⟨ha, hb⟩
    have hw := td_W_le hT hW
    rw [hs]
    refine br_t (by decide) (ty_bits (by omega) ?_)
    rw [pk_sub hw]
    exact h w hw hW
  · intro n k s hk hs ih
    obtain ⟨w, h7, hs, ha, hb⟩ := hs
    have hr := td_room_le R (k + 1)
    have hz := td_sz_le (k + 1) 7
    have hkb : ∀ w', (w' = w ∨ w < w') → ((k + 1) &&& T = k + 1 → td_sz (k + 1) 7 ≤ td_room D C (k + 1) + w') → ∀ S, S < k + 1 + 1 → S ≠ 0 → S &&& T = S → td_sz S 7 ≤ td_room D C S + w' := by
      intro w' hw' hn S hS h0 hST
      by_cases q : S < k + 1
      · have := ha S q h0 hST
        omega
      · have e : S = k + 1 := by omega
        rw [e] at hST
        rw [e]
        exact hn hST
    have hko : w = 0 ∨ ∃ S, S < k + 1 + 1 ∧ S ≠ 0 ∧ S &&& T = S ∧ td_sz S 7 = td_room D C S + w := by
      rcases hb with z | ⟨S, hS, z⟩
      · exact Or.inl z
      · exact Or.inr ⟨S, by omega, z⟩
    refine br_f (nI_ge (b := 32) (by omega) (by decide)) (ty_bits (by omega) (ty_room R (by omega) (nm_e ?_)))
    rw [td_clr (a := k + 1) (by omega), hs]
    have hal : (k + 1) &&& (T ^^^ 127) ≤ k + 1 := Nat.and_le_left
    refine pk_eq ((k + 1) &&& (T ^^^ 127)) 0 (fun z => ?_) (fun z => ?_)
    · have z := (td_t8 (k + 1) (by omega) T hT).mp z
      by_cases q : td_sz (k + 1) 7 ≤ td_room D C (k + 1) + w
      · exact br_t ((td_lk (by omega) (by omega) (by omega)).mpr q) (nm_r (nI_1 (k + 1)) (ih _ ⟨w, h7, rfl, hkb w (Or.inl rfl) (fun _ => q), hko⟩))
      · refine br_f (fun y => q ((td_lk (by omega) (by omega) (by omega)).mp y)) (nm_r (nI_1 (k + 1)) (ih _ ⟨td_sz (k + 1) 7 - td_room D C (k + 1), by omega, pk_sub (by omega), hkb _ (Or.inr (by omega)) (fun _ => by omega), Or.inr ⟨k + 1, by omega, by omega, z, by omega⟩⟩))
    · refine nm_r (nI_1 (k + 1)) (ih _ ⟨w, h7, rfl, hkb w (Or.inl rfl) (fun y => absurd ((td_t8 (k + 1) (by omega) T hT).mpr y) z), hko⟩)
theorem ty_nv {U : Nat → Nat} {p d : Nat} (R : td_R D C dm cp) (hp : p < 5) (hus : ∀ v, v < 7 → us v = nI (U v) ∧ U v ≤ 9) (hgv : gv p + 1 = nI d) (hd : d ≤ 7) (h : ∀ v, d ≤ v → v ≤ 7 → (∀ x, d ≤ x → x < v → ¬ ((D p).testBit x = true ∧ U x < C x)) → (v < 7 → (D p).testBit v = true ∧ U v < C v) → post (nI v)) : wpY_nextValue post (fi, al, ev, dm, cp, gv, us, fs, su) (nI p) := by
  have e : gv (nI p).toNatClampNeg + 1 = nI d := by
    rw [nI_clamp (by omega)]
    exact hgv
  have hdl := tr_dl R hp
  refine ⟨vp_in_nI hp (by decide), nm_r e ?_⟩
  refine pk_loop (fun n v (_ : Unit) => wY_nextValue_9 post (nI p) fi al ev dm cp gv us fs su n (nI v)) (fun v _ => d ≤ v ∧ ∀ x, d ≤ x → x < v → ¬ ((D p).testBit x = true ∧ U x < C x)) 7 d () hd ⟨Nat.le_refl d, fun x h1 h2 => absurd h2 (by omega)⟩ ?_ ?_
  · intro n s hs
    exact br_t (by decide) (h 7 hs.1 (by omega) hs.2 (fun z => absurd z (by omega)))
  · intro n v s hv hs ih
    have hcl := tr_cl R hv
    have hul := (hus v hv).2
    have eu : us (nI v).toNatClampNeg = nI (U v) := by
      rw [nI_clamp (by omega)]
      exact (hus v hv).1
    have hnx : ¬ ((D p).testBit v = true ∧ U v < C v) → d ≤ v + 1 ∧ ∀ x, d ≤ x → x < v + 1 → ¬ ((D p).testBit x = true ∧ U x < C x) := by
      intro z
      refine ⟨by omega, fun x h1 h2 => ?_⟩
      by_cases q : x < v
      · exact hs.2 x h1 q
      · have e : x = v := by omega
        rw [e]
        exact z
    refine br_f (nI_ge (b := 7) hv (by decide)) ⟨vp_in_nI hp (by decide), ?_⟩
    rw [tr_d R hp]
    refine pk_eq (D p / 2 ^ v % 2) 1 (fun a => ?_) (fun a => ?_) (td_bit (by omega) (by omega))
    · have a := td_tb1.mp a
      refine ⟨vp_in_nI hv (by decide), vp_in_nI hv (by decide), ?_⟩
      rw [tr_c R hv, eu]
      exact pk_le (C v) (U v) (fun q => nm_r (nI_1 v) (ih () (hnx (fun z => by omega)))) (fun q => h v hs.1 (by omega) hs.2 (fun _ => ⟨a, q⟩))
    · exact nm_r (nI_1 v) (ih () (hnx (fun z => a (td_tb1.mpr z.1))))
end
end
section
/-! the reference's search -/
theorem td_so_t {c v : Nat} (h : 0 < td_cn c 5 v) : td_so c (v + 1) = td_so c v ||| 2 ^ v := if_pos (decide_eq_true h)
theorem td_so_f {c v : Nat} (h : ¬ 0 < td_cn c 5 v) : td_so c (v + 1) = td_so c v := if_neg (fun z => h (of_decide_eq_true z))
section
variable {fi al ev : Int32} {dm cp gv us fs su : Nat → Int32} {D C : Nat → Nat} {post : SY → Prop}
theorem ty_45 {J : Int32 → Int32 → Int32 → Prop} {c v : Nat} {x2 z0 : Int32} (hv : v < 7) (hus : us v = nI (td_cn c 5 v)) (hx : x2 = nI (td_so c v)) (h : J z0 (nI (td_so c (v + 1))) (nI (v + 1))) : wY_noteFilling_45 post J x2 (nI v) z0 fi al ev dm cp gv us fs su := by
  have eu : us (nI v).toNatClampNeg = nI (td_cn c 5 v) := by
    rw [nI_clamp (by omega)]
    exact hus
  have hcn := td_cn_le c 5 v
  refine ⟨vp_in_nI hv (by decide), ?_⟩
  rw [eu]
  refine pk_le (td_cn c 5 v) 0 (fun q => ?_) (fun q => ?_)
  · refine nm_r (nI_1 v) ?_
    rw [hx, ← td_so_f (show ¬ 0 < td_cn c 5 v from by omega)]
    exact h
  · have e : x2 ||| ((1 : Int32) <<< (nI v &&& 31)) = nI (td_so c (v + 1)) := by
      rw [hx, td_sh1 (by omega), td_nor, td_so_t q]
    exact nm_r e (nm_r (nI_1 v) h)
theorem ty_105 {J : Int32 → (Nat → Int32) → (Nat → Int32) → (Nat → Int32) → (Nat → Int32) → (Nat → Int32) → (Nat → Int32) → Prop} {k d : Nat} {x1 x2 z0 : Int32} (hk : k < 5) (hd : d < 8) (hgv : gv k = nI d) (h : J (nI (k + 1)) dm cp gv us (upd fs k z0) (upd su k (su k ||| nI (2 ^ d)))) : wY_noteFilling_105 post J x1 x2 (nI k) z0 (nI k) fi al ev dm cp gv us fs su := by
  have ek : (nI k).toNatClampNeg = k := nI_clamp (by omega)
  have hi : vp_in (nI k) 5 := vp_in_nI hk (by decide)
  have e1 : upd fs (nI k).toNatClampNeg z0 = upd fs k z0 := by rw [ek]
  have e2 : upd su (nI k).toNatClampNeg ((su (nI k).toNatClampNeg) ||| ((1 : Int32) <<< ((gv (nI k).toNatClampNeg) &&& 31))) = upd su k (su k ||| nI (2 ^ d)) := by
    rw [ek, hgv, td_sh1 (by omega)]
  exact ⟨hi, nm_r e1 ⟨hi, hi, hi, nm_r e2 (nm_r (nI_1 k) h)⟩⟩
theorem ty_73 {c : Nat} {x1 x2 : Int32} (hgv : ∀ i, i < 5 → gv i = nI (td_dg c i)) (h : ∀ fs' su' : Nat → Int32, (∀ i, i < 5 → su' i = su i ||| nI (2 ^ td_dg c i)) → (∀ i, i < 5 → fs' i = if fi = 0 then nI (td_dg c i) else fs i) → post (fi + 1, al &&& x1, ev ||| x2, dm, cp, gv, us, fs', su')) : ∃ n73 : Nat, wY_noteFilling_73 post x1 x2 fi al ev n73 0 dm cp gv us fs su := by
  refine loop_0 (fun n k (s : (Nat → Int32) × (Nat → Int32)) => wY_noteFilling_73 post x1 x2 fi al ev n (nI k) dm cp gv us s.1 s.2) (fun k s => (∀ i, i < 5 → s.2 i = if i < k then su i ||| nI (2 ^ td_dg c i) else su i) ∧ (∀ i, i < 5 → s.1 i = if i < k then (if fi = 0 then nI (td_dg c i) else fs i) else fs i)) 5 (fs, su) ⟨fun i _ => rfl, fun i _ => rfl⟩ ?_ ?_
  · intro n s hs
    obtain ⟨f, u⟩ := s
    obtain ⟨h2, h1⟩ := hs
    refine br_t (by decide) (nm_e (nm_e (nm_e ?_)))
    refine h f u (fun i hi => ?_) (fun i hi => ?_)
    · have := h2 i hi
      rw [if_pos hi] at this
      exact this
    · have := h1 i hi
      rw [if_pos hi] at this
      exact this
  · intro n k s hk hs ih
    obtain ⟨f, u⟩ := s
    obtain ⟨h2, h1⟩ := hs
    have h2 : ∀ i, i < 5 → u i = if i < k then su i ||| nI (2 ^ td_dg c i) else su i := h2
    have h1 : ∀ i, i < 5 → f i = if i < k then (if fi = 0 then nI (td_dg c i) else fs i) else fs i := h1
    have hd := td_dg_lt c k
    have ek : (nI k).toNatClampNeg = k := nI_clamp (by omega)
    have hi : vp_in (nI k) 5 := vp_in_nI hk (by decide)
    have hu : u k = su k := by rw [h2 k hk, if_neg (Nat.lt_irrefl k)]
    have hf : f k = fs k := by rw [h1 k hk, if_neg (Nat.lt_irrefl k)]
    have nx : ∀ z : Int32, z = (if fi = 0 then nI (td_dg c k) else fs k) → wY_noteFilling_73 post x1 x2 fi al ev n (nI (k + 1)) dm cp gv us (upd f k z) (upd u k (u k ||| nI (2 ^ td_dg c k))) := by
      intro z hz
      refine ih (upd f k z, upd u k (u k ||| nI (2 ^ td_dg c k))) ⟨fun i hi => ?_, fun i hi => ?_⟩
      · show upd u k (u k ||| nI (2 ^ td_dg c k)) i = _
        by_cases q : i = k
        · subst q
          rw [pk_us, if_pos (Nat.lt_succ_self i), hu]
        · rw [pk_un q, h2 i hi]
          by_cases y : i < k
          · rw [if_pos y, if_pos (by omega)]
          · rw [if_neg y, if_neg (by omega)]
      · show upd f k z i = _
        by_cases q : i = k
        · subst q
          rw [pk_us, if_pos (Nat.lt_succ_self i)]
          exact hz
        · rw [pk_un q, h1 i hi]
          by_cases y : i < k
          · rw [if_pos y, if_pos (show i < k + 1 from by omega)]
          · rw [if_neg y, if_neg (show ¬ i < k + 1 from by omega)]
    refine br_f (nI_ge (b := 5) hk (by decide)) ?_
    refine br_c (fun q => ⟨hi, ?_⟩) (fun q => ⟨hi, ?_⟩)
    · exact ty_105 hk hd (hgv k hk) (nx _ (by rw [if_pos q, ek]; exact hgv k hk))
    · exact ty_105 hk hd (hgv k hk) (nx _ (by rw [if_neg q, ek]; exact hf))
theorem ty_nt {c : Nat} (hcp : ∀ v, v < 7 → cp v = nI (C v) ∧ C v ≤ 3) (hgv : ∀ i, i < 5 → gv i = nI (td_dg c i)) (hus : ∀ v, v < 7 → us v = nI (td_cn c 5 v)) (h : ∀ fs' su' : Nat → Int32, (∀ i, i < 5 → su' i = su i ||| nI (2 ^ td_dg c i)) → (∀ i, i < 5 → fs' i = if fi = 0 then nI (td_dg c i) else fs i) → post (fi + 1, al &&& nI (td_fu C c 7), ev ||| nI (td_so c 7), dm, cp, gv, us, fs', su')) : wpY_noteFilling post (fi, al, ev, dm, cp, gv, us, fs, su) := by
  show ∃ n6 : Nat, wY_noteFilling_6 post fi al ev dm cp gv us fs su n6 0 0 0
  refine loop_0 (fun n v (s : Int32 × Int32) => wY_noteFilling_6 post fi al ev dm cp gv us fs su n s.1 s.2 (nI v)) (fun v s => s.1 = nI (td_fu C c v) ∧ s.2 = nI (td_so c v)) 7 (0, 0) ⟨rfl, rfl⟩ ?_ ?_
  · intro n s hs
    obtain ⟨x1, x2⟩ := s
    obtain ⟨e1, e2⟩ := hs
    have e1 : x1 = nI (td_fu C c 7) := e1
    have e2 : x2 = nI (td_so c 7) := e2
    refine br_t (by decide) ?_
    show ∃ n73 : Nat, wY_noteFilling_73 post x1 x2 fi al ev n73 0 dm cp gv us fs su
    rw [e1, e2]
    exact ty_73 hgv h
  · intro n v s hv hs ih
    obtain ⟨x1, x2⟩ := s
    obtain ⟨e1, e2⟩ := hs
    have e1 : x1 = nI (td_fu C c v) := e1
    have e2 : x2 = nI (td_so c v) := e2
    have ec : cp (nI v).toNatClampNeg = nI (C v) := by
      rw [nI_clamp (by omega)]
      exact (hcp v hv).1
    have eu : us (nI v).toNatClampNeg = nI (td_cn c 5 v) := by
      rw [nI_clamp (by omega)]
      exact hus v hv
    have hcl := (hcp v hv).2
    have hcn := td_cn_le c 5 v
    have hi : vp_in (nI v) 7 := vp_in_nI hv (by decide)
    have nx : ∀ z : Int32, z = nI (td_fu C c (v + 1)) → wY_noteFilling_45 post (wY_noteFilling_6 post fi al ev dm cp gv us fs su n) x2 (nI v) z fi al ev dm cp gv us fs su := fun z hz => ty_45 hv (hus v hv) e2 (ih (z, nI (td_so c (v + 1))) ⟨hz, rfl⟩)
    have keep : ¬ (0 < C v ∧ td_cn c 5 v = C v) → x1 = nI (td_fu C c (v + 1)) := by
      intro z
      rw [td_fu_f z]
      exact e1
    refine br_f (nI_ge (b := 7) hv (by decide)) ⟨hi, ?_⟩
    rw [ec]
    refine pk_le (C v) 0 (fun q => ?_) (fun q => ⟨hi, hi, ?_⟩)
    · exact nx x1 (keep (fun z => by omega))
    · rw [eu]
      refine pk_eq (td_cn c 5 v) (C v) (fun e => ?_) (fun e => ?_)
      · refine nx _ ?_
        show x1 ||| ((1 : Int32) <<< (nI v &&& 31)) = _
        rw [e1, td_sh1 (by omega), td_nor, td_fu_t ⟨q, e⟩]
      · exact nx x1 (keep (fun z => e z.2))
/-- what the reference has gathered after its search -/
def ty_F (D C : Nat → Nat) (N : Nat) (fi al ev : Int32) (fs su : Nat → Int32) : Prop := td_ac (td_fl D C) (fun c => td_fu C c 7) (fun c => td_so c 7) N fi al ev fs su
theorem ty_lp (R : td_R D C dm cp) (h : ∀ (fi al ev : Int32) (gv us fs su : Nat → Int32), ty_F D C 32768 fi al ev fs su → post (fi, al, ev, dm, cp, gv, us, fs, su)) : ∀ (n N p : Nat) (fi al ev : Int32) (gv us fs su : Nat → Int32), p < 5 → N < 32768 → N % td_q p = 0 → td_gp D C N p → (∀ j, j < p → gv j = nI (td_dg N j)) → gv p = nI (td_dg N p) - 1 → (∀ v, v < 7 → us v = nI (td_cn N p v + if td_dg N p = v + 1 then 1 else 0)) → ty_F D C N fi al ev fs su → 6 * (32768 - N) + (5 - p) < n → wY_goOver_66 post n (nI p) fi al ev dm cp gv us fs su := by
  intro n
  induction n with
  | zero =>
    intro N p fi al ev gv us fs su hp hN hq hg hgv hgp hus hac hn
    omega
  | succ n ih =>
    intro N p fi al ev gv us fs su hp hN hq hg hgv hgp hus hac hn
    have hip : vp_in (nI p) 5 := vp_in_nI hp (by decide)
    have ep : (nI p).toNatClampNeg = p := nI_clamp (by omega)
    have hd8 := td_dg_lt N p
    have key : ∀ us' : Nat → Int32, (∀ v, v < 7 → us' v = nI (td_cn N p v)) → wY_goOver_94 post (wY_goOver_66 post n) (nI p) fi al ev dm cp gv us' fs su := by
      intro us' hus'
      have hgd : gv p + 1 = nI (td_dg N p) := by
        rw [hgp, Int32.sub_add_cancel]
      refine ty_nv (U := td_cn N p) (d := td_dg N p) R hp (fun v hv => ⟨hus' v hv, Nat.le_trans (td_cn_le N p v) (by omega)⟩) hgd (by omega) (fun v h1 h2 h3 h4 => ?_)
      have e1 : upd gv (nI p).toNatClampNeg (nI v) = upd gv p (nI v) := by rw [ep]
      refine ⟨hip, nm_r e1 ⟨hip, ?_⟩⟩
      have e2 : upd gv p (nI v) (nI p).toNatClampNeg = nI v := by rw [ep, pk_us]
      rw [e2]
      obtain ⟨M, hM⟩ : ∃ M, M = N + (v - td_dg N p) * td_q p := ⟨_, rfl⟩
      obtain ⟨a1, a2, a3, a4, a5, a6⟩ := td_L1 p hp N v M hN hq h1 h2 hM
      have hacM : ty_F D C M fi al ev fs su := td_ac_to hac a5 (fun c c1 c2 => by
        obtain ⟨b1, b2, b3⟩ := a6 c c1 c2
        exact td_nf hp b1 (fun z => h3 _ b2 b3 ⟨z.2.1, z.2.2⟩))
      have hgM : td_gp D C M p := td_gp_cg a4 hg
      have hcM : ∀ x, td_cn M p x = td_cn N p x := fun x => td_cn_eq a4 x
      have hgvM : ∀ j, j < p → upd gv p (nI v) j = nI (td_dg M j) := by
        intro j hj
        rw [pk_un (by omega), hgv j hj, a4 j hj]
      refine pk_eq v 7 (fun e7 => ?_) (fun e7 => ?_)
      · subst e7
        cases p with
        | zero =>
          obtain ⟨m, hm⟩ : ∃ m, n = m + 1 := ⟨n - 1, by omega⟩
          obtain ⟨l1, l2⟩ := td_L30 a1 a2 a3
          subst hm
          refine nm_e (br_t (by decide) (h _ _ _ _ _ _ _ ?_))
          have hz : ty_F D C (M + td_q 0) fi al ev fs su := td_ac_to hacM (by omega) (fun c c1 c2 => td_nf (p := 0) (N := M) (by omega) (fun j hj => absurd hj (Nat.not_lt_zero j)) (fun z => by have := l2 c c1 c2; omega))
          rw [l1] at hz
          exact hz
        | succ r =>
          obtain ⟨M', hM'⟩ : ∃ M', M' = M + td_q (r + 1) := ⟨_, rfl⟩
          have hr7 : td_dg M r < 7 := by
            have y := (hgM r (by omega)).1
            have := td_dg_lt M r
            omega
          obtain ⟨l1, l2, l3, l4, l5, l6⟩ := td_L3 r (by omega) M M' a1 a2 a3 hr7 hM'
          have hz : ty_F D C M' fi al ev fs su := td_ac_to hacM l5 (fun c c1 c2 => td_nf (p := r + 1) (N := M) hp (l6 c c1 c2).1 (fun z => by have := (l6 c c1 c2).2; omega))
          have hlt : M < M' := by
            have : 0 < td_q (r + 1) := by
              unfold td_q
              split <;> decide
            omega
          refine nm_r (pk_m1 r) (ih M' r fi al ev _ us' fs su (by omega) l1 l2 (td_gp_cg l4 (td_gp_d hgM)) (fun j hj => ?_) ?_ (fun x hx => ?_) hz (by omega))
          · rw [hgvM j (by omega), l4 j hj]
          · rw [hgvM r (by omega), l3, nI_pred]
          · rw [hus' x hx, ← hcM x, td_cn_s, td_cn_eq l4 x, l3]
            by_cases q : td_dg M r = x
            · rw [if_pos q, if_pos (by omega)]
            · rw [if_neg q, if_neg (by omega)]
      · have hv : v < 7 := by omega
        have hiv : vp_in (nI v) 7 := vp_in_nI hv (by decide)
        have ev' : (nI v).toNatClampNeg = v := nI_clamp (by omega)
        have e3 : upd us' (nI v).toNatClampNeg (us' (nI v).toNatClampNeg + 1) = upd us' v (us' v + 1) := by rw [ev']
        have hgood := h4 hv
        have hg1 : td_gp D C M (p + 1) := td_gp_s hgM (by omega) (by rw [a3]; exact hgood.1) (by rw [a3, hcM]; exact hgood.2)
        have hu : ∀ x, x < 7 → upd us' v (us' v + 1) x = nI (td_cn M (p + 1) x) := by
          intro x hx
          rw [td_cn_s, a3, hcM x]
          by_cases q : v = x
          · subst q
            rw [pk_us, hus' v hx, nI_1, if_pos rfl]
          · rw [pk_un (fun z => q z.symm), hus' x hx, if_neg q]
            rfl
        have hgp1 : ∀ j, j < p + 1 → upd gv p (nI v) j = nI (td_dg M j) := lt_s hgvM (by rw [pk_us, a3])
        refine ⟨hip, hiv, hiv, nm_r e3 ?_⟩
        refine pk_eq p 4 (fun p4 => ?_) (fun p4 => ?_)
        · subst p4
          have hfl := td_gp_5 hg1
          obtain ⟨l1, l2, l3⟩ := td_L4 a1 (show td_dg M 4 < 7 from by omega)
          refine ty_nt (c := M) R.2 hgp1 hu (fun fs' su' g1 g2 => ?_)
          refine ih (M + 1) 4 _ _ _ _ _ fs' su' (by omega) l1 (by rw [td_q4]; exact Nat.mod_one _) (td_gp_cg l3 hgM) (fun j hj => ?_) ?_ (fun x hx => ?_) (td_ac_t hacM a1 hfl g1 g2) (by omega)
          · rw [hgvM j hj, l3 j hj]
          · rw [pk_us, l2, a3, nI_pred]
          · rw [hu x hx, td_cn_s, td_cn_eq l3 x, l2]
            by_cases q : td_dg M 4 = x
            · rw [if_pos q, if_pos (by omega)]
            · rw [if_neg q, if_neg (by omega)]
        · have hp4 : p < 4 := by omega
          obtain ⟨l1, l2⟩ := td_L2 p hp4 M a2
          have e4 : upd (upd gv p (nI v)) (nI (p + 1)).toNatClampNeg (-1) = upd (upd gv p (nI v)) (p + 1) (-1) := by rw [nI_clamp (by omega)]
          refine nm_r (nI_1 p) ⟨vp_in_nI (by omega) (by decide), nm_r e4 ?_⟩
          refine ih M (p + 1) fi al ev _ _ fs su (by omega) a1 l1 hg1 (fun j hj => ?_) ?_ (fun x hx => ?_) hacM (by omega)
          · rw [pk_un (by omega), hgp1 j hj]
          · rw [pk_us, l2]
            decide
          · rw [hu x hx, l2, if_neg (by omega)]
            rfl
    refine br_f (nI_pos (by omega)) ⟨hip, ?_⟩
    have egv : gv (nI p).toNatClampNeg = nI (td_dg N p) - 1 := by rw [ep, hgp]
    rw [egv]
    by_cases hz : td_dg N p = 0
    · refine br_t (by rw [hz]; decide) (key us (fun v hv => ?_))
      rw [hus v hv, hz, if_neg (by omega)]
      rfl
    · obtain ⟨e, he⟩ : ∃ e, td_dg N p = e + 1 := ⟨td_dg N p - 1, by omega⟩
      rw [he, nI_pred]
      have hie : vp_in (nI e) 7 := vp_in_nI (by omega) (by decide)
      have ee : (nI e).toNatClampNeg = e := nI_clamp (by omega)
      refine br_f (nI_pos (by omega)) ⟨hip, hie, hie, nm_e (key _ (fun v hv => ?_))⟩
      rw [ee]
      by_cases q : v = e
      · subst q
        rw [pk_us, hus v hv, if_pos he, nI_pred]
      · rw [pk_un q, hus v hv, if_neg (by omega)]
        rfl
theorem ty_go (R : td_R D C dm cp) (h : ∀ (fi al ev : Int32) (gv us fs su : Nat → Int32), ty_F D C 32768 fi al ev fs su → post (fi, al, ev, dm, cp, gv, us, fs, su)) : wpY_goOver post (fi, al, ev, dm, cp, gv, us, fs, su) := by
  show ∃ n18 : Nat, wY_goOver_18 post 0 127 0 n18 0 dm cp gv us fs su
  refine loop_0 (fun n k s => wY_goOver_18 post 0 127 0 n (nI k) dm cp gv us fs s) (fun k s => ∀ i, i < k → s i = 0) 5 su (fun b hb => absurd hb (Nat.not_lt_zero b)) ?_ ?_
  · intro n su' hsu
    refine br_t (by decide) ?_
    refine loop_0 (fun n k s => wY_goOver_38 post 0 127 0 n (nI k) dm cp gv s fs su') (fun k s => ∀ i, i < k → s i = 0) 7 us (fun b hb => absurd hb (Nat.not_lt_zero b)) ?_ ?_
    · intro n us' hus
      refine br_t (by decide) (nm_e ⟨6 * 32768 + 6, ?_⟩)
      refine ty_lp R h (6 * 32768 + 6) 0 0 0 127 0 _ us' fs su' (by omega) (by omega) (by decide) (fun j hj => absurd hj (Nat.not_lt_zero j)) (fun j hj => absurd hj (Nat.not_lt_zero j)) ?_ (fun v hv => ?_) ⟨rfl, rfl, rfl, fun i hi => hsu i hi, fun c hc => absurd hc (Nat.not_lt_zero c)⟩ (by omega)
      · rw [pk_us]
        decide
      · rw [hus v hv]
        rfl
    · intro n k s hk hs ih
      have ek : upd s (nI k).toNatClampNeg 0 = upd s k 0 := by rw [nI_clamp (by omega)]
      refine br_f (nI_ge (b := 7) hk (by decide)) ⟨vp_in_nI hk (by decide), nm_r ek (nm_r (nI_1 k) (ih _ (lt_s (fun i hi => ?_) pk_us)))⟩
      rw [pk_un (by omega)]
      exact hs i hi
  · intro n k s hk hs ih
    have ek : upd s (nI k).toNatClampNeg 0 = upd s k 0 := by rw [nI_clamp (by omega)]
    refine br_f (nI_ge (b := 5) hk (by decide)) ⟨vp_in_nI hk (by decide), nm_r ek (nm_r (nI_1 k) (ih _ (lt_s (fun i hi => ?_) pk_us)))⟩
    rw [pk_un (by omega)]
    exact hs i hi
end
end
section
/-! the methods, both sides -/
section
variable {fi al ev : Int32} {dm' cp' gv us fs su : Nat → Int32} {D C : Nat → Nat}
theorem ty_none {N : Nat} (h : ty_F D C N fi al ev fs su) (hN : N ≤ 32768) (z : ∀ c, c < N → td_fl D C c = false) : fi = nI 0 := by
  rw [h.1, td_ct_0.mpr z]
theorem ty_some {N c : Nat} (h : ty_F D C N fi al ev fs su) (hN : N ≤ 32768) (hc : c < N) (hf : td_fl D C c = true) : ∃ m, fi = nI (m + 1) ∧ m + 1 ≤ 32768 := by
  have hl := td_ct_le (td_fl D C) N
  have hz : td_ct (td_fl D C) N ≠ 0 := by
    intro z
    have := td_ct_0.mp z c hc
    rw [hf] at this
    exact absurd this (by decide)
  refine ⟨td_ct (td_fl D C) N - 1, ?_, by omega⟩
  rw [h.1]
  congr 1
  omega
/-- the search, told by whether there is a filling -/
theorem ty_go2 {post : SY → Prop} (R : td_R D C dm' cp') (h : ∀ (fi al ev : Int32) (gv us fs su : Nat → Int32), ty_F D C 32768 fi al ev fs su → post (fi, al, ev, dm', cp', gv, us, fs, su)) : wpY_goOver post (fi, al, ev, dm', cp', gv, us, fs, su) := ty_go R h
end
theorem td_R_ud {D C : Nat → Nat} {dm cp : Nat → Int32} {i s : Nat} (R : td_R D C dm cp) (hi : i < 5) (hs : s < 128) : td_R (fun j => if j = i then s else D j) C (upd dm (nI i).toNatClampNeg (nI s)) cp := by
  rw [nI_clamp (show i < 2 ^ 31 from by omega)]
  refine ⟨fun j hj => ?_, R.2⟩
  show upd dm i (nI s) j = nI (if j = i then s else D j) ∧ (if j = i then s else D j) < 128
  by_cases q : j = i
  · subst q
    rw [pk_us, if_pos rfl]
    exact ⟨rfl, hs⟩
  · rw [pk_un q, if_neg q]
    exact R.1 j hj
theorem td_R_uc {D C : Nat → Nat} {dm cp : Nat → Int32} {v c : Nat} (R : td_R D C dm cp) (hv : v < 7) (hc : c ≤ 3) : td_R D (fun j => if j = v then c else C j) dm (upd cp (nI v).toNatClampNeg (nI c)) := by
  rw [nI_clamp (show v < 2 ^ 31 from by omega)]
  refine ⟨R.1, fun j hj => ?_⟩
  show upd cp v (nI c) j = nI (if j = v then c else C j) ∧ (if j = v then c else C j) ≤ 3
  by_cases q : j = v
  · subst q
    rw [pk_us, if_pos rfl]
    exact ⟨rfl, hc⟩
  · rw [pk_un q, if_neg q]
    exact R.2 j hj
/-- both hold the same domains, within 0 to 127, and the same capacities, within 0 to 3 -/

def i_Rel (_ : Nat) (u : SX) (v : SY) : Prop := ∃ D C : Nat → Nat, td_R D C u.1 u.2 ∧ td_R D C v.2.2.2.1 v.2.2.2.2.1
theorem td_rel {k : Nat} {dm cp : Nat → Int32} {fi al ev : Int32} {dm' cp' gv us fs su : Nat → Int32} {D C : Nat → Nat} (R : td_R D C dm cp) (R' : td_R D C dm' cp') : i_Rel k (dm, cp) (fi, al, ev, dm', cp', gv, us, fs, su) := ⟨D, C, R, R'⟩
theorem i_up {k : Nat} {u : SX} {v : SY} (h : i_Rel k u v) : i_Rel (k + 4) u v := h
theorem i_vc0 : wpX_init (fun u => wpY_init (fun v => i_Rel 0 u v)) := by
  refine loop_0 (fun n k s => wX_init_21 (fun u => wpY_init (fun v => i_Rel 0 u v)) n (nI k) s (fun _ => 0)) (fun k s => ∀ i, i < k → s i = 127) 5 (fun _ => 0) (fun b hb => absurd hb (Nat.not_lt_zero b)) ?_ ?_
  · intro n dm hdm
    refine br_t (by decide) ?_
    refine loop_0 (fun n k s => wX_init_42 (fun u => wpY_init (fun v => i_Rel 0 u v)) n (nI k) dm s) (fun k s => ∀ i, i < k → s i = 1) 7 (fun _ => 0) (fun b hb => absurd hb (Nat.not_lt_zero b)) ?_ ?_
    · intro n cp hcp
      refine br_t (by decide) ?_
      refine loop_0 (fun n k s => wY_init_50 (fun v => i_Rel 0 (dm, cp) v) 0 0 0 n (nI k) s (fun _ => 0) (fun _ => 0) (fun _ => 0) (fun _ => 0) (fun _ => 0)) (fun k s => ∀ i, i < k → s i = 127) 5 (fun _ => 0) (fun b hb => absurd hb (Nat.not_lt_zero b)) ?_ ?_
      · intro n dm' hdm'
        refine br_t (by decide) ?_
        refine loop_0 (fun n k s => wY_init_71 (fun v => i_Rel 0 (dm, cp) v) 0 0 0 n (nI k) dm' s (fun _ => 0) (fun _ => 0) (fun _ => 0) (fun _ => 0)) (fun k s => ∀ i, i < k → s i = 1) 7 (fun _ => 0) (fun b hb => absurd hb (Nat.not_lt_zero b)) ?_ ?_
        · intro n cp' hcp'
          refine br_t (by decide) ?_
          exact td_rel (D := fun _ => 127) (C := fun _ => 1) ⟨fun i hi => ⟨hdm i hi, (by decide : 127 < 128)⟩, fun v hv => ⟨hcp v hv, (by decide : 1 ≤ 3)⟩⟩ ⟨fun i hi => ⟨hdm' i hi, (by decide : 127 < 128)⟩, fun v hv => ⟨hcp' v hv, (by decide : 1 ≤ 3)⟩⟩
        · intro n k s hk hs ih
          have ek : upd s (nI k).toNatClampNeg 1 = upd s k 1 := by rw [nI_clamp (by omega)]
          refine br_f (nI_ge (b := 7) hk (by decide)) ⟨vp_in_nI hk (by decide), nm_r ek (nm_r (nI_1 k) (ih _ (lt_s (fun i hi => ?_) pk_us)))⟩
          rw [pk_un (by omega)]
          exact hs i hi
      · intro n k s hk hs ih
        have ek : upd s (nI k).toNatClampNeg 127 = upd s k 127 := by rw [nI_clamp (by omega)]
        refine br_f (nI_ge (b := 5) hk (by decide)) ⟨vp_in_nI hk (by decide), nm_r ek (nm_r (nI_1 k) (ih _ (lt_s (fun i hi => ?_) pk_us)))⟩
        rw [pk_un (by omega)]
        exact hs i hi
    · intro n k s hk hs ih
      have ek : upd s (nI k).toNatClampNeg 1 = upd s k 1 := by rw [nI_clamp (by omega)]
      refine br_f (nI_ge (b := 7) hk (by decide)) ⟨vp_in_nI hk (by decide), nm_r ek (nm_r (nI_1 k) (ih _ (lt_s (fun i hi => ?_) pk_us)))⟩
      rw [pk_un (by omega)]
      exact hs i hi
  · intro n k s hk hs ih
    have ek : upd s (nI k).toNatClampNeg 127 = upd s k 127 := by rw [nI_clamp (by omega)]
    refine br_f (nI_ge (b := 5) hk (by decide)) ⟨vp_in_nI hk (by decide), nm_r ek (nm_r (nI_1 k) (ih _ (lt_s (fun i hi => ?_) pk_us)))⟩
    rw [pk_un (by omega)]
    exact hs i hi
theorem i_vc_domain {k : Nat} {u : SX} {v : SY} (I : i_Rel k u v) (hk : k + 4 ≤ 2048) (v1 : Int32) (v2 : Int32) : wpX_domain (fun r u' => wpY_domain (fun r' v' => r' = r ∧ i_Rel (k + 4) u' v') v v1 v2) u v1 v2 := by
  obtain ⟨dm, cp⟩ := u
  obtain ⟨fi, al, ev, dm', cp', gv, us, fs, su⟩ := v
  obtain ⟨D, C, R, R'⟩ := I
  have R : td_R D C dm cp := R
  have R' : td_R D C dm' cp' := R'
  have hbad : ∀ {k' : Nat}, i_Rel k' (dm, cp) (fi, al, ev, dm', cp', gv, us, fs, su) := td_rel R R'
  unfold wpX_domain wpY_domain
  dsimp only
  by_cases hx : v1 < 0 ∨ nI 5 ≤ v1
  · exact tx_pl0 hx (br_t rfl (ty_pl0 hx (br_t rfl ⟨rfl, hbad⟩)))
  · obtain ⟨i, hi, rfl⟩ : ∃ i : Nat, i < 5 ∧ v1 = nI i := by
      rcases pk_ix v1 (n := 5) (by decide) with z | z | z
      · exact absurd (Or.inl z) hx
      · exact absurd (Or.inr z) hx
      · exact z
    refine tx_pl1 hi (br_f (by decide) ?_)
    by_cases hn : v2 < 0
    · exact br_t hn (ty_pl1 hi (br_f (by decide) (br_t hn ⟨rfl, hbad⟩)))
    · by_cases hs : v2 ≤ 127
      · obtain ⟨s, hs1, rfl⟩ := nI_of2 (n := 127) (M := 127) (by decide) hn hs
        refine br_f hn (br_t hs ⟨vp_in_nI hi (by decide), nm_e ⟨vp_in_nI hi (by decide), nm_e ?_⟩⟩)
        refine ty_pl1 hi (br_f (by decide) (br_f hn (br_t hs ⟨vp_in_nI hi (by decide), nm_e ⟨vp_in_nI hi (by decide), nm_e ⟨?_, ?_⟩⟩⟩)))
        · rw [tr_d R hi, tr_d R' hi]
        · exact td_rel (td_R_ud R hi (by omega)) (td_R_ud R' hi (by omega))
      · exact br_f hn (br_f hs (ty_pl1 hi (br_f (by decide) (br_f hn (br_f hs ⟨rfl, hbad⟩)))))
theorem tx_allow {post : Int32 → SX → Prop} {D C : Nat → Nat} {dm cp : Nat → Int32} {i v : Nat} {v3 : Int32} (R : td_R D C dm cp) (hi : i < 5) (hv : v < 7) (h0 : v3 = 0 → post (nI (D i / 2 ^ v % 2)) (upd dm (nI i).toNatClampNeg (nI (D i &&& (2 ^ v ^^^ 127))), cp)) (h1 : ¬ v3 = 0 → post (nI (D i / 2 ^ v % 2)) (upd dm (nI i).toNatClampNeg (nI (D i ||| 2 ^ v)), cp)) : wpX_allow post (dm, cp) (nI i) (nI v) v3 := by
  have hl := tr_dl R hi
  have hin : vp_in (nI i) 5 := vp_in_nI hi (by decide)
  have es : (1 : Int32) <<< (nI v &&& 31) = nI (2 ^ v) := td_sh1 (by omega)
  unfold wpX_allow
  dsimp only
  refine tx_pl1 hi (br_f (by decide) (tx_vl1 hv (br_f (by decide) ⟨hin, ?_⟩)))
  rw [tr_d R hi, es, td_clr hl, td_nor]
  refine tx_in (by omega) (by omega) (fun a => ?_) (fun a => ?_)
  · rw [td_tb1.mpr a] at h0 h1
    exact br_c (fun q => ⟨hin, hin, nm_e (br_f (by decide) (h0 q))⟩) (fun q => ⟨hin, hin, nm_e (br_f (by decide) (h1 q))⟩)
  · have e : D i / 2 ^ v % 2 = 0 := by rw [td_tb, if_neg (by rw [a]; decide)]
    rw [e] at h0 h1
    exact br_c (fun q => ⟨hin, hin, nm_e (br_t rfl (h0 q))⟩) (fun q => ⟨hin, hin, nm_e (br_t rfl (h1 q))⟩)
theorem ty_allow {post : Int32 → SY → Prop} {fi al ev : Int32} {dm' cp' gv us fs su : Nat → Int32} {D C : Nat → Nat} {i v : Nat} {v3 : Int32} (R : td_R D C dm' cp') (hi : i < 5) (hv : v < 7) (h0 : v3 = 0 → post (nI (D i / 2 ^ v % 2)) (fi, al, ev, upd dm' (nI i).toNatClampNeg (nI (D i &&& (2 ^ v ^^^ 127))), cp', gv, us, fs, su)) (h1 : ¬ v3 = 0 → post (nI (D i / 2 ^ v % 2)) (fi, al, ev, upd dm' (nI i).toNatClampNeg (nI (D i ||| 2 ^ v)), cp', gv, us, fs, su)) : wpY_allow post (fi, al, ev, dm', cp', gv, us, fs, su) (nI i) (nI v) v3 := by
  have hl := tr_dl R hi
  have hin : vp_in (nI i) 5 := vp_in_nI hi (by decide)
  have es : (1 : Int32) <<< (nI v &&& 31) = nI (2 ^ v) := td_sh1 (by omega)
  unfold wpY_allow
  dsimp only
  refine ty_pl1 hi (br_f (by decide) (ty_vl1 hv (br_f (by decide) ⟨hin, ?_⟩)))
  rw [tr_d R hi, es, td_clr hl, td_nor, td_bit (by omega) (by omega)]
  exact nm_e (br_c (fun q => ⟨hin, hin, nm_e (h0 q)⟩) (fun q => ⟨hin, hin, nm_e (h1 q)⟩))
theorem i_vc_allow {k : Nat} {u : SX} {v : SY} (I : i_Rel k u v) (hk : k + 4 ≤ 2048) (v1 : Int32) (v2 : Int32) (v3 : Int32) : wpX_allow (fun r u' => wpY_allow (fun r' v' => r' = r ∧ i_Rel (k + 4) u' v') v v1 v2 v3) u v1 v2 v3 := by
  obtain ⟨dm, cp⟩ := u
  obtain ⟨fi, al, ev, dm', cp', gv, us, fs, su⟩ := v
  obtain ⟨D, C, R, R'⟩ := I
  have R : td_R D C dm cp := R
  have R' : td_R D C dm' cp' := R'
  have hbad : ∀ {k' : Nat}, i_Rel k' (dm, cp) (fi, al, ev, dm', cp', gv, us, fs, su) := td_rel R R'
  by_cases hx : v1 < 0 ∨ nI 5 ≤ v1
  · unfold wpX_allow wpY_allow
    dsimp only
    exact tx_pl0 hx (br_t rfl (ty_pl0 hx (br_t rfl ⟨rfl, hbad⟩)))
  · obtain ⟨i, hi, rfl⟩ : ∃ i : Nat, i < 5 ∧ v1 = nI i := by
      rcases pk_ix v1 (n := 5) (by decide) with z | z | z
      · exact absurd (Or.inl z) hx
      · exact absurd (Or.inr z) hx
      · exact z
    by_cases hx2 : v2 < 0 ∨ nI 7 ≤ v2
    · unfold wpX_allow wpY_allow
      dsimp only
      exact tx_pl1 hi (br_f (by decide) (tx_vl0 hx2 (br_t rfl (ty_pl1 hi (br_f (by decide) (ty_vl0 hx2 (br_t rfl ⟨rfl, hbad⟩)))))))
    · obtain ⟨v, hv, rfl⟩ : ∃ v : Nat, v < 7 ∧ v2 = nI v := by
        rcases pk_ix v2 (n := 7) (by decide) with z | z | z
        · exact absurd (Or.inl z) hx2
        · exact absurd (Or.inr z) hx2
        · exact z
      have hl := tr_dl R hi
      have hp7 := td_p7 hv
      have hc0 : D i &&& (2 ^ v ^^^ 127) < 128 := Nat.lt_of_le_of_lt Nat.and_le_left hl
      have hc1 : D i ||| 2 ^ v < 128 := Nat.or_lt_two_pow (n := 7) hl hp7
      refine tx_allow R hi hv (fun q => ?_) (fun q => ?_)
      · exact ty_allow R' hi hv (fun _ => ⟨rfl, td_rel (td_R_ud R hi hc0) (td_R_ud R' hi hc0)⟩) (fun z => absurd q z)
      · exact ty_allow R' hi hv (fun z => absurd z q) (fun _ => ⟨rfl, td_rel (td_R_ud R hi hc1) (td_R_ud R' hi hc1)⟩)
theorem i_vc_capacity {k : Nat} {u : SX} {v : SY} (I : i_Rel k u v) (hk : k + 4 ≤ 2048) (v1 : Int32) (v2 : Int32) : wpX_capacity (fun r u' => wpY_capacity (fun r' v' => r' = r ∧ i_Rel (k + 4) u' v') v v1 v2) u v1 v2 := by
  obtain ⟨dm, cp⟩ := u
  obtain ⟨fi, al, ev, dm', cp', gv, us, fs, su⟩ := v
  obtain ⟨D, C, R, R'⟩ := I
  have R : td_R D C dm cp := R
  have R' : td_R D C dm' cp' := R'
  have hbad : ∀ {k' : Nat}, i_Rel k' (dm, cp) (fi, al, ev, dm', cp', gv, us, fs, su) := td_rel R R'
  unfold wpX_capacity wpY_capacity
  dsimp only
  by_cases hx : v1 < 0 ∨ nI 7 ≤ v1
  · exact tx_vl0 hx (br_t rfl (ty_vl0 hx (br_t rfl ⟨rfl, hbad⟩)))
  · obtain ⟨i, hi, rfl⟩ : ∃ i : Nat, i < 7 ∧ v1 = nI i := by
      rcases pk_ix v1 (n := 7) (by decide) with z | z | z
      · exact absurd (Or.inl z) hx
      · exact absurd (Or.inr z) hx
      · exact z
    refine tx_vl1 hi (br_f (by decide) ?_)
    by_cases hn : v2 < 0
    · exact br_t hn (ty_vl1 hi (br_f (by decide) (br_t hn ⟨rfl, hbad⟩)))
    · by_cases hs : v2 ≤ 3
      · obtain ⟨s, hs1, rfl⟩ := nI_of2 (n := 3) (M := 3) (by decide) hn hs
        refine br_f hn (br_t hs ⟨vp_in_nI hi (by decide), nm_e ⟨vp_in_nI hi (by decide), nm_e ?_⟩⟩)
        refine ty_vl1 hi (br_f (by decide) (br_f hn (br_t hs ⟨vp_in_nI hi (by decide), nm_e ⟨vp_in_nI hi (by decide), nm_e ⟨?_, ?_⟩⟩⟩)))
        · rw [tr_c R hi, tr_c R' hi]
        · exact td_rel (td_R_uc R hi hs1) (td_R_uc R' hi hs1)
      · exact br_f hn (br_f hs (ty_vl1 hi (br_f (by decide) (br_f hn (br_f hs ⟨rfl, hbad⟩)))))
theorem i_vc_fillable {k : Nat} {u : SX} {v : SY} (I : i_Rel k u v) (hk : k + 4 ≤ 2048) : wpX_fillable (fun r => wpY_fillable (fun r' v' => r' = r ∧ i_Rel (k + 4) u v') v) u := by
  obtain ⟨dm, cp⟩ := u
  obtain ⟨fi, al, ev, dm', cp', gv, us, fs, su⟩ := v
  obtain ⟨D, C, R, R'⟩ := I
  have R : td_R D C dm cp := R
  have R' : td_R D C dm' cp' := R'
  unfold wpX_fillable wpY_fillable
  dsimp only
  refine tx_ff R (fun c hc hf _ => br_f (td_m4 (by omega)) (ty_go R' (fun fi al ev gv us fs su hF => ?_))) (fun z => br_t rfl (ty_go R' (fun fi al ev gv us fs su hF => ?_)))
  · obtain ⟨m, em, hm⟩ := ty_some hF (Nat.le_refl _) hc hf
    refine br_f ?_ ⟨rfl, td_rel R R'⟩
    rw [em]
    exact nI_nle (by omega) (by omega)
  · refine br_t ?_ ⟨rfl, td_rel R R'⟩
    rw [ty_none hF (Nat.le_refl _) z]
    exact (by decide : nI 0 ≤ 0)
theorem i_vc_most {k : Nat} {u : SX} {v : SY} (I : i_Rel k u v) (hk : k + 4 ≤ 2048) : wpX_most (fun r => wpY_most (fun r' => r' = r ∧ i_Rel (k + 4) u v) v) u := by
  obtain ⟨dm, cp⟩ := u
  obtain ⟨fi, al, ev, dm', cp', gv, us, fs, su⟩ := v
  obtain ⟨D, C, R, R'⟩ := I
  have R : td_R D C dm cp := R
  have R' : td_R D C dm' cp' := R'
  refine tx_most R (fun m h5 hM => ?_)
  unfold wpY_most
  dsimp only
  refine ty_mo (T := 31) R' (by decide) (fun w hw hW => ⟨?_, td_rel R R'⟩)
  have e := td_MW hM hW
  rw [td_sz31]
  congr 1
  omega
theorem i_vc_support {k : Nat} {u : SX} {v : SY} (I : i_Rel k u v) (hk : k + 4 ≤ 2048) (v1 : Int32) : wpX_support (fun r => wpY_support (fun r' v' => r' = r ∧ i_Rel (k + 4) u v') v v1) u v1 := by
  obtain ⟨dm, cp⟩ := u
  obtain ⟨fi, al, ev, dm', cp', gv, us, fs, su⟩ := v
  obtain ⟨D, C, R, R'⟩ := I
  have R : td_R D C dm cp := R
  have R' : td_R D C dm' cp' := R'
  by_cases hx : v1 < 0 ∨ nI 5 ≤ v1
  · unfold wpX_support wpY_support
    dsimp only
    exact tx_pl0 hx (br_t rfl (ty_pl0 hx (br_t rfl ⟨rfl, td_rel R R'⟩)))
  · obtain ⟨i, hi, rfl⟩ : ∃ i : Nat, i < 5 ∧ v1 = nI i := by
      rcases pk_ix v1 (n := 5) (by decide) with z | z | z
      · exact absurd (Or.inl z) hx
      · exact absurd (Or.inr z) hx
      · exact z
    refine tx_su R hi ?_
    unfold wpY_support
    dsimp only
    refine ty_pl1 hi (br_f (by decide) (ty_go R' (fun fi al ev gv us fs su hF => ⟨vp_in_nI hi (by decide), ?_, td_rel R R'⟩)))
    rw [nI_clamp (by omega)]
    exact hF.2.2.2.1 i hi
theorem ty_prune {post : Int32 → SY → Prop} {fi al ev : Int32} {dm' cp' gv us fs su : Nat → Int32} {D C : Nat → Nat} (R : td_R D C dm' cp') (hsu : ∀ i, i < 5 → su i = nI (td_su D C i)) (h : ∀ d, td_R (td_Dk D C 5) C d cp' → post (nI (td_gn D C 5)) (fi, al, ev, d, cp', gv, us, fs, su)) : ∃ n18 : Nat, wY_prune_18 post fi al ev n18 0 0 dm' cp' gv us fs su := by
  refine loop_0 (fun n k (s : Int32 × (Nat → Int32)) => wY_prune_18 post fi al ev n s.1 (nI k) s.2 cp' gv us fs su) (fun k s => s.1 = nI (td_gn D C k) ∧ td_R (td_Dk D C k) C s.2 cp') 5 (0, dm') ⟨rfl, td_Dk_0 R⟩ ?_ ?_
  · intro n s hs
    obtain ⟨g, d⟩ := s
    obtain ⟨hg, hd⟩ := hs
    have hg : g = nI (td_gn D C 5) := hg
    refine br_t (by decide) ?_
    show post g (fi, al, ev, d, cp', gv, us, fs, su)
    rw [hg]
    exact h d hd
  · intro n k s hk hs ih
    obtain ⟨g, d⟩ := s
    obtain ⟨hg, hd⟩ := hs
    have hg : g = nI (td_gn D C k) := hg
    have hd : td_R (td_Dk D C k) C d cp' := hd
    have hDk : td_Dk D C k k = D k := if_neg (Nat.lt_irrefl k)
    have hl := tr_dl hd hk
    rw [hDk] at hl
    have hi : vp_in (nI k) 5 := vp_in_nI hk (by decide)
    have es : su (nI k).toNatClampNeg = nI (td_su D C k) := by
      rw [nI_clamp (by omega)]
      exact hsu k hk
    refine br_f (nI_ge (b := 5) hk (by decide)) ⟨hi, ?_⟩
    show wpY_bits _ (fi, al, ev, d, cp', gv, us, fs, su) (d (nI k).toNatClampNeg)
    rw [tr_d hd hk, hDk]
    refine ty_bits hl ⟨hi, ?_⟩
    rw [es]
    refine ty_bits (td_su_lt hk) ?_
    have hz := td_sz_cl (d := D k) (s := td_su D C k) (fun i z => td_su_sub hk z) 7 (by omega)
    have e : (g + nI (td_sz (D k) 7)) - nI (td_sz (td_su D C k) 7) = nI (td_gn D C (k + 1)) := by
      rw [hg, nI_add, pk_sub (by omega)]
      congr 1
      show _ = td_gn D C k + td_sz (D k &&& (td_su D C k ^^^ 127)) 7
      omega
    exact nm_r e ⟨hi, hi, nm_e (nm_r (nI_1 k) (ih (_, _) ⟨rfl, td_Dk_s hk hd⟩))⟩
theorem i_vc_prune {k : Nat} {u : SX} {v : SY} (I : i_Rel k u v) (hk : k + 4 ≤ 2048) : wpX_prune (fun r u' => wpY_prune (fun r' v' => r' = r ∧ i_Rel (k + 4) u' v') v) u := by
  obtain ⟨dm, cp⟩ := u
  obtain ⟨fi, al, ev, dm', cp', gv, us, fs, su⟩ := v
  obtain ⟨D, C, R, R'⟩ := I
  have R : td_R D C dm cp := R
  have R' : td_R D C dm' cp' := R'
  refine tx_prune R (fun z => ?_) (fun c hc hf d hd => ?_)
  · unfold wpY_prune
    dsimp only
    refine ty_go R' (fun fi al ev gv us fs su hF => br_t ?_ ⟨rfl, td_rel R R'⟩)
    rw [ty_none hF (Nat.le_refl _) z]
    rfl
  · unfold wpY_prune
    dsimp only
    refine ty_go R' (fun fi al ev gv us fs su hF => br_f ?_ ?_)
    · obtain ⟨m, em, hm⟩ := ty_some hF (Nat.le_refl _) hc hf
      rw [em]
      exact nI_ne0 (by omega) (by omega)
    · exact ty_prune R' (fun i hi => hF.2.2.2.1 i hi) (fun d' hd' => ⟨rfl, td_rel hd hd'⟩)
theorem i_vc_first {k : Nat} {u : SX} {v : SY} (I : i_Rel k u v) (hk : k + 4 ≤ 2048) (v1 : Int32) : wpX_first (fun r => wpY_first (fun r' v' => r' = r ∧ i_Rel (k + 4) u v') v v1) u v1 := by
  obtain ⟨dm, cp⟩ := u
  obtain ⟨fi, al, ev, dm', cp', gv, us, fs, su⟩ := v
  obtain ⟨D, C, R, R'⟩ := I
  have R : td_R D C dm cp := R
  have R' : td_R D C dm' cp' := R'
  unfold wpX_first wpY_first
  dsimp only
  by_cases hx : v1 < 0 ∨ nI 5 ≤ v1
  · exact tx_pl0 hx (br_t rfl (ty_pl0 hx (br_t rfl ⟨rfl, td_rel R R'⟩)))
  · obtain ⟨i, hi, rfl⟩ : ∃ i : Nat, i < 5 ∧ v1 = nI i := by
      rcases pk_ix v1 (n := 5) (by decide) with z | z | z
      · exact absurd (Or.inl z) hx
      · exact absurd (Or.inr z) hx
      · exact z
    refine tx_pl1 hi (br_f (by decide) (tx_ff R (fun c hc hf hl => br_f (td_m4 (by omega)) (tx_va hc hi ?_)) (fun z => br_t rfl ?_)))
    · refine ty_pl1 hi (br_f (by decide) (ty_go R' (fun fi al ev gv us fs su hF => br_f ?_ ⟨vp_in_nI hi (by decide), ?_, td_rel R R'⟩)))
      · obtain ⟨m, em, hm⟩ := ty_some hF (Nat.le_refl _) hc hf
        rw [em]
        exact nI_ne0 (by omega) (by omega)
      · rw [nI_clamp (by omega)]
        exact hF.2.2.2.2 c hc hf hl i hi
    · refine ty_pl1 hi (br_f (by decide) (ty_go R' (fun fi al ev gv us fs su hF => br_t ?_ ⟨rfl, td_rel R R'⟩)))
      rw [ty_none hF (Nat.le_refl _) z]
      rfl
theorem i_vc_count {k : Nat} {u : SX} {v : SY} (I : i_Rel k u v) (hk : k + 4 ≤ 2048) : wpX_count (fun r => wpY_count (fun r' v' => r' = r ∧ i_Rel (k + 4) u v') v) u := by
  obtain ⟨dm, cp⟩ := u
  obtain ⟨fi, al, ev, dm', cp', gv, us, fs, su⟩ := v
  obtain ⟨D, C, R, R'⟩ := I
  have R : td_R D C dm cp := R
  have R' : td_R D C dm' cp' := R'
  refine tx_count R ?_
  unfold wpY_count
  dsimp only
  exact ty_go R' (fun fi al ev gv us fs su hF => ⟨hF.1, td_rel R R'⟩)
theorem i_vc_exhausted {k : Nat} {u : SX} {v : SY} (I : i_Rel k u v) (hk : k + 4 ≤ 2048) : wpX_exhausted (fun r => wpY_exhausted (fun r' v' => r' = r ∧ i_Rel (k + 4) u v') v) u := by
  obtain ⟨dm, cp⟩ := u
  obtain ⟨fi, al, ev, dm', cp', gv, us, fs, su⟩ := v
  obtain ⟨D, C, R, R'⟩ := I
  have R : td_R D C dm cp := R
  have R' : td_R D C dm' cp' := R'
  unfold wpY_exhausted
  dsimp only
  refine tx_ex R (fun z => ?_) (fun c hc hf => ?_)
  · refine ty_go R' (fun fi al ev gv us fs su hF => br_t ?_ ⟨rfl, td_rel R R'⟩)
    rw [ty_none hF (Nat.le_refl _) z]
    rfl
  · refine ty_go R' (fun fi al ev gv us fs su hF => br_f ?_ ⟨hF.2.1, td_rel R R'⟩)
    obtain ⟨m, em, hm⟩ := ty_some hF (Nat.le_refl _) hc hf
    rw [em]
    exact nI_ne0 (by omega) (by omega)
theorem i_vc_unused {k : Nat} {u : SX} {v : SY} (I : i_Rel k u v) (hk : k + 4 ≤ 2048) : wpX_unused (fun r => wpY_unused (fun r' v' => r' = r ∧ i_Rel (k + 4) u v') v) u := by
  obtain ⟨dm, cp⟩ := u
  obtain ⟨fi, al, ev, dm', cp', gv, us, fs, su⟩ := v
  obtain ⟨D, C, R, R'⟩ := I
  have R : td_R D C dm cp := R
  have R' : td_R D C dm' cp' := R'
  unfold wpY_unused
  dsimp only
  refine tx_un R (fun z => ?_) (fun c hc hf => ?_)
  · refine ty_go R' (fun fi al ev gv us fs su hF => br_t ?_ ⟨rfl, td_rel R R'⟩)
    rw [ty_none hF (Nat.le_refl _) z]
    rfl
  · refine ty_go R' (fun fi al ev gv us fs su hF => br_f ?_ ⟨?_, td_rel R R'⟩)
    · obtain ⟨m, em, hm⟩ := ty_some hF (Nat.le_refl _) hc hf
      rw [em]
      exact nI_ne0 (by omega) (by omega)
    · have e := hF.2.2.1
      rw [td_ever] at e
      rw [e]
theorem ty_lack {post : Int32 → Prop} {fi al ev : Int32} {dm' cp' gv us fs su : Nat → Int32} {D C : Nat → Nat} (R : td_R D C dm' cp') (h1 : ∀ k, k < 31 → td_room D C (k + 1) < td_sz (k + 1) 7 → (∀ j, j < k → td_sz (j + 1) 7 ≤ td_room D C (j + 1)) → post (nI (k + 1))) (h0 : (∀ j, j < 31 → td_sz (j + 1) 7 ≤ td_room D C (j + 1)) → post (-4)) : wpY_lack post (fi, al, ev, dm', cp', gv, us, fs, su) := by
  show ∃ n2 : Nat, wY_lack_2 post fi al ev dm' cp' gv us fs su n2 1
  refine loop_0 (fun n k (_ : Unit) => wY_lack_2 post fi al ev dm' cp' gv us fs su n (nI (k + 1))) (fun k _ => ∀ j, j < k → td_sz (j + 1) 7 ≤ td_room D C (j + 1)) 31 () (fun b hb => absurd hb (Nat.not_lt_zero b)) ?_ ?_
  · intro n s hs
    exact br_t (by decide) (h0 hs)
  · intro n k s hk hs ih
    have hr := td_room_le R (k + 1)
    have hz := td_sz_le (k + 1) 7
    refine br_f (nI_ge (b := 32) (by omega) (by decide)) (ty_room R (by omega) (ty_bits (by omega) ?_))
    refine pk_le (td_sz (k + 1) 7) (td_room D C (k + 1)) (fun q => ?_) (fun q => ?_)
    · exact nm_r (nI_1 (k + 1)) (ih () (lt_s hs q))
    · exact h1 k hk q hs
theorem ty_tight {post : Int32 → Prop} {fi al ev : Int32} {dm' cp' gv us fs su : Nat → Int32} {D C : Nat → Nat} (R : td_R D C dm' cp') (h : post (nI (td_tg D C 31))) : wpY_tight post (fi, al, ev, dm', cp', gv, us, fs, su) := by
  show ∃ n4 : Nat, wY_tight_4 post fi al ev dm' cp' gv us fs su n4 0 1
  refine loop_0 (fun n k s => wY_tight_4 post fi al ev dm' cp' gv us fs su n s (nI (k + 1))) (fun k s => s = nI (td_tg D C k)) 31 0 rfl ?_ ?_
  · intro n s hs
    refine br_t (by decide) ?_
    have hs : s = nI (td_tg D C 31) := hs
    rw [hs]
    exact h
  · intro n k s hk hs ih
    have hs : s = nI (td_tg D C k) := hs
    have hr := td_room_le R (k + 1)
    have hz := td_sz_le (k + 1) 7
    refine br_f (nI_ge (b := 32) (by omega) (by decide)) (ty_room R (by omega) (ty_bits (by omega) ?_))
    refine pk_eq (td_room D C (k + 1)) (td_sz (k + 1) 7) (fun q => ?_) (fun q => ?_)
    · have e : s + 1 = nI (td_tg D C (k + 1)) := by
        rw [hs, nI_1, td_tg_s, if_pos q]
      exact nm_r e (nm_r (nI_1 (k + 1)) (ih _ rfl))
    · refine nm_r (nI_1 (k + 1)) (ih s ?_)
      show s = nI (td_tg D C (k + 1))
      rw [td_tg_s, if_neg q]
      exact hs
theorem i_vc_lack {k : Nat} {u : SX} {v : SY} (I : i_Rel k u v) (hk : k + 4 ≤ 2048) : wpX_lack (fun r => wpY_lack (fun r' => r' = r ∧ i_Rel (k + 4) u v) v) u := by
  obtain ⟨dm, cp⟩ := u
  obtain ⟨fi, al, ev, dm', cp', gv, us, fs, su⟩ := v
  obtain ⟨D, C, R, R'⟩ := I
  have R : td_R D C dm cp := R
  have R' : td_R D C dm' cp' := R'
  refine tx_lack R (fun j hj q1 q2 => ?_) (fun z => ?_)
  · refine ty_lack R' (fun j' hj' q1' q2' => ⟨?_, td_rel R R'⟩) (fun z => ?_)
    · by_cases u : j' < j
      · have := q2 j' u
        omega
      · by_cases u2 : j < j'
        · have := q2' j u2
          omega
        · have e : j' = j := by omega
          rw [e]
    · have := z j hj
      omega
  · refine ty_lack R' (fun j' hj' q1' q2' => ?_) (fun _ => ⟨rfl, td_rel R R'⟩)
    have := z j' hj'
    omega
theorem i_vc_tight {k : Nat} {u : SX} {v : SY} (I : i_Rel k u v) (hk : k + 4 ≤ 2048) : wpX_tight (fun r => wpY_tight (fun r' => r' = r ∧ i_Rel (k + 4) u v) v) u := by
  obtain ⟨dm, cp⟩ := u
  obtain ⟨fi, al, ev, dm', cp', gv, us, fs, su⟩ := v
  obtain ⟨D, C, R, R'⟩ := I
  have R : td_R D C dm cp := R
  have R' : td_R D C dm' cp' := R'
  exact tx_tight R (ty_tight R' ⟨rfl, td_rel R R'⟩)
theorem td_31i : ∀ i, i < 5 → (31 : Int32) &&& (((1 : Int32) <<< (nI i &&& 31)) ^^^ (-1)) = nI (31 ^^^ 2 ^ i) := by decide +kernel
/-- how many of the first n places can be spared -/
theorem ty_sp {post : Int32 → Prop} {fi al ev : Int32} {dm' cp' gv us fs su : Nat → Int32} {D C : Nat → Nat} {m s : Nat} (R : td_R D C dm' cp') (hM : td_M D C m) (hs : ∀ i, i < 5 → (s.testBit i = true ↔ ∃ c, c < 32768 ∧ td_sz (td_lo c 5) 7 = 5 - m ∧ td_ok D C c 5 = true ∧ td_dg c i = 7)) (h : post (nI (td_sz s 5))) : wpY_spareable post (fi, al, ev, dm', cp', gv, us, fs, su) := by
  unfold wpY_spareable
  dsimp only
  refine ty_mo (T := 31) R (by decide) (fun w hw hW => ?_)
  have hmw := td_MW hM hW
  rw [td_sz31]
  rw [td_sz31] at hw
  refine loop_0 (fun n k x => wY_spareable_11 post (nI (5 - w)) fi al ev dm' cp' gv us fs su n x (nI k)) (fun k x => x = nI (td_sz s k)) 5 0 rfl ?_ ?_
  · intro n x hx
    refine br_t (by decide) ?_
    have hx : x = nI (td_sz s 5) := hx
    rw [hx]
    exact h
  · intro n k x hk hx ih
    have hx : x = nI (td_sz s k) := hx
    obtain ⟨t1, t2, t3⟩ := td_T4 k hk
    refine br_f (nI_ge (b := 5) hk (by decide)) ?_
    rw [td_31i k hk]
    refine ty_mo R t1 (fun wi hwi hWi => ?_)
    rw [t2]
    rw [t2] at hwi
    have hsp := td_spare hk hM hW hWi
    refine pk_eq (4 - wi) (5 - w) (fun q => ?_) (fun q => ?_)
    · have hb : s.testBit k = true := (hs k hk).mpr (hsp.mpr (by omega))
      have e : x + 1 = nI (td_sz s (k + 1)) := by
        rw [hx, nI_1, td_sz_s, if_pos hb]
      exact nm_r e (nm_r (nI_1 k) (ih _ rfl))
    · have hb : ¬ s.testBit k = true := by
        intro z
        have := hsp.mp ((hs k hk).mp z)
        omega
      refine nm_r (nI_1 k) (ih x ?_)
      show x = nI (td_sz s (k + 1))
      rw [td_sz_s, if_neg hb]
      exact hx
theorem i_vc_spareable {k : Nat} {u : SX} {v : SY} (I : i_Rel k u v) (hk : k + 4 ≤ 2048) : wpX_spareable (fun r => wpY_spareable (fun r' => r' = r ∧ i_Rel (k + 4) u v) v) u := by
  obtain ⟨dm, cp⟩ := u
  obtain ⟨fi, al, ev, dm', cp', gv, us, fs, su⟩ := v
  obtain ⟨D, C, R, R'⟩ := I
  have R : td_R D C dm cp := R
  have R' : td_R D C dm' cp' := R'
  refine tx_sp R (fun m s h5 hM hs hb => ?_)
  refine ty_sp R' hM hb ⟨?_, td_rel R R'⟩
  rw [td_sz5 hs]
theorem i_vc_missing {k : Nat} {u : SX} {v : SY} (I : i_Rel k u v) (hk : k + 4 ≤ 2048) : wpX_missing (fun r => wpY_missing (fun r' => r' = r ∧ i_Rel (k + 4) u v) v) u := by
  obtain ⟨dm, cp⟩ := u
  obtain ⟨fi, al, ev, dm', cp', gv, us, fs, su⟩ := v
  obtain ⟨D, C, R, R'⟩ := I
  have R : td_R D C dm cp := R
  have R' : td_R D C dm' cp' := R'
  have hY : ∀ post : Int32 → Prop, (∀ i, i < 5 → D i = 0 → post (-4)) → ((∀ i, i < 5 → D i ≠ 0) → ∀ w, w ≤ 5 → td_W D C 31 w → post (nI w)) → wpY_missing post (fi, al, ev, dm', cp', gv, us, fs, su) := by
    intro post h0 h1
    show ∃ n2 : Nat, wY_missing_2 post fi al ev dm' cp' gv us fs su n2 0
    refine loop_0 (fun n k (_ : Unit) => wY_missing_2 post fi al ev dm' cp' gv us fs su n (nI k)) (fun k _ => ∀ j, j < k → D j ≠ 0) 5 () (fun b hb => absurd hb (Nat.not_lt_zero b)) ?_ ?_
    · intro n s hs
      refine br_t (by decide) (ty_mo (T := 31) R' (by decide) (fun w hw hW => ?_))
      rw [td_sz31] at hw ⊢
      show post (nI 5 - nI (5 - w))
      rw [pk_sub (by omega), show 5 - (5 - w) = w from by omega]
      exact h1 hs w hw hW
    · intro n k s hk hs ih
      have hl := tr_dl R' hk
      refine br_f (nI_ge (b := 5) hk (by decide)) ⟨vp_in_nI hk (by decide), ?_⟩
      rw [tr_d R' hk]
      refine pk_eq (D k) 0 (fun q => h0 k hk q) (fun q => ?_)
      exact nm_r (nI_1 k) (ih () (lt_s hs q))
  refine tx_ms R (fun i hi z => ?_) (fun z m h5 hM => ?_)
  · exact hY _ (fun _ _ _ => ⟨rfl, td_rel R R'⟩) (fun y => absurd z (y i hi))
  · refine hY _ (fun i hi y => absurd y (z i hi)) (fun _ w hw hW => ⟨?_, td_rel R R'⟩)
    have e := td_MW hM hW
    congr 1
    omega
end
