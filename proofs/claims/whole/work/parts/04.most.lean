/-! rooms as the code reckons them, and the greatest part filling -/
def td_un (D : Nat → Nat) (S : Nat) : Nat → Nat
  | 0 => 0
  | i + 1 => if S / 2 ^ i % 2 = 1 then td_un D S i ||| D i else td_un D S i
def td_sm (C : Nat → Nat) (U : Nat) : Nat → Nat
  | 0 => 0
  | v + 1 => if U / 2 ^ v % 2 = 1 then td_sm C U v + C v else td_sm C U v
def td_room (D C : Nat → Nat) (S : Nat) : Nat := td_sm C (td_un D S 5) 7
theorem td_un_t {D : Nat → Nat} {S i : Nat} (h : S / 2 ^ i % 2 = 1) : td_un D S (i + 1) = td_un D S i ||| D i := if_pos h
theorem td_un_f {D : Nat → Nat} {S i : Nat} (h : ¬ S / 2 ^ i % 2 = 1) : td_un D S (i + 1) = td_un D S i := if_neg h
theorem td_sm_t {C : Nat → Nat} {U v : Nat} (h : U / 2 ^ v % 2 = 1) : td_sm C U (v + 1) = td_sm C U v + C v := if_pos h
theorem td_sm_f {C : Nat → Nat} {U v : Nat} (h : ¬ U / 2 ^ v % 2 = 1) : td_sm C U (v + 1) = td_sm C U v := if_neg h
theorem td_un_lt {D : Nat → Nat} {S : Nat} (n : Nat) (h : ∀ i, i < n → D i < 128) : td_un D S n < 128 := by
  induction n with
  | zero => exact (by decide : 0 < 128)
  | succ n ih =>
    have h1 := ih (fun i hi => h i (by omega))
    by_cases q : S / 2 ^ n % 2 = 1
    · rw [td_un_t q]
      exact Nat.or_lt_two_pow (n := 7) h1 (h n (by omega))
    · rw [td_un_f q]
      exact h1
theorem td_sm_le {C : Nat → Nat} {U : Nat} (n : Nat) (h : ∀ v, v < n → C v ≤ 3) : td_sm C U n ≤ 3 * n := by
  induction n with
  | zero => exact Nat.le_refl 0
  | succ n ih =>
    have h1 := ih (fun i hi => h i (by omega))
    have h2 := h n (by omega)
    by_cases q : U / 2 ^ n % 2 = 1
    · rw [td_sm_t q]; omega
    · rw [td_sm_f q]; omega
theorem td_un_b {D : Nat → Nat} {S v : Nat} (n : Nat) : (td_un D S n).testBit v = td_ub (fun i u => (D i).testBit u) S v n := by
  induction n with
  | zero =>
    show (0 : Nat).testBit v = false
    exact Nat.zero_testBit v
  | succ n ih =>
    show _ = (td_ub (fun i u => (D i).testBit u) S v n || (S.testBit n && (D n).testBit v))
    by_cases q : S / 2 ^ n % 2 = 1
    · rw [td_un_t q, Nat.testBit_or, ih, td_tb1.mp q, Bool.true_and]
    · rw [td_un_f q, ih, Bool.eq_false_iff.mpr (fun z => q (td_tb1.mpr z)), Bool.false_and, Bool.or_false]
theorem td_ub_cg {E E' : Nat → Nat → Bool} {S v : Nat} (n : Nat) (h : ∀ i, i < n → E i v = E' i v) : td_ub E S v n = td_ub E' S v n := by
  induction n with
  | zero => rfl
  | succ n ih =>
    show (td_ub E S v n || (S.testBit n && E n v)) = (td_ub E' S v n || (S.testBit n && E' n v))
    rw [ih (fun i hi => h i (by omega)), h n (by omega)]
/-- the values and one more, number 7, that stands for being left out -/
def td_E (D : Nat → Nat) (i v : Nat) : Bool := v == 7 || (D i).testBit v
def td_C (C : Nat → Nat) (w v : Nat) : Nat := if v = 7 then w else C v
theorem td_rm_7 {D C : Nat → Nat} {w S : Nat} (n : Nat) (hn : n ≤ 7) : td_rm (td_E D) (td_C C w) S n = td_sm C (td_un D S 5) n := by
  induction n with
  | zero => rfl
  | succ n ih =>
    have h1 := ih (by omega)
    have h2 : td_ub (td_E D) S n 5 = (td_un D S 5).testBit n := by
      rw [td_un_b]
      refine td_ub_cg 5 (fun i _ => ?_)
      show (n == 7 || (D i).testBit n) = (D i).testBit n
      rw [show (n == 7) = false from beq_eq_false_iff_ne.mpr (by omega), Bool.false_or]
    have h3 : td_C C w n = C n := if_neg (by omega)
    rw [td_rm_s, h1, h2, h3]
    by_cases q : (td_un D S 5).testBit n = true
    · rw [if_pos q, td_sm_t (td_tb1.mpr q)]
    · rw [if_neg q, td_sm_f (fun z => q (td_tb1.mp z)), Nat.add_zero]
theorem td_rm_8 {D C : Nat → Nat} {w S : Nat} (hS : S < 32) (h0 : S ≠ 0) : td_rm (td_E D) (td_C C w) S 8 = td_room D C S + w := by
  rw [td_rm_s, td_rm_7 7 (by omega)]
  have h : td_ub (td_E D) S 7 5 = true := by
    rw [td_ub_iff]
    rcases td_t5 S hS h0 with z | z | z | z | z
    · exact ⟨0, by omega, z, rfl⟩
    · exact ⟨1, by omega, z, rfl⟩
    · exact ⟨2, by omega, z, rfl⟩
    · exact ⟨3, by omega, z, rfl⟩
    · exact ⟨4, by omega, z, rfl⟩
  rw [if_pos h]
  rfl
/-- the choice with given digits -/
def td_mk (g : Nat → Nat) : Nat := g 0 * 4096 + g 1 * 512 + g 2 * 64 + g 3 * 8 + g 4
theorem td_mk_lt {g : Nat → Nat} (h : ∀ i, i < 5 → g i < 8) : td_mk g < 32768 := by
  have h0 := h 0 (by omega)
  have h1 := h 1 (by omega)
  have h2 := h 2 (by omega)
  have h3 := h 3 (by omega)
  have h4 := h 4 (by omega)
  unfold td_mk
  omega
theorem td_mk_dg {g : Nat → Nat} (h : ∀ i, i < 5 → g i < 8) : ∀ i, i < 5 → td_dg (td_mk g) i = g i := by
  have h0 := h 0 (by omega)
  have h1 := h 1 (by omega)
  have h2 := h 2 (by omega)
  have h3 := h 3 (by omega)
  have h4 := h 4 (by omega)
  refine td_5 ?_ ?_ ?_ ?_ ?_
  · rw [td_dg0]; unfold td_mk; omega
  · rw [td_dg1]; unfold td_mk; omega
  · rw [td_dg2]; unfold td_mk; omega
  · rw [td_dg3]; unfold td_mk; omega
  · rw [td_dg4]; unfold td_mk; omega
/-- enough: a part filling within T that leaves out no more than w of T -/
theorem td_ex {D C : Nat → Nat} {T w : Nat} (hT : T < 32) (hw : ∀ S, S < 32 → S ≠ 0 → S &&& T = S → td_sz S 7 ≤ td_room D C S + w) : ∃ c, c < 32768 ∧ td_ok D C c 5 = true ∧ (∀ i, i < 5 → T.testBit i = false → td_dg c i = 7) ∧ td_sz (td_lo c 5) 7 + td_sz T 7 ≤ w + 5 := by
  obtain ⟨g, a, b⟩ := td_hall (td_E D) (td_sz T 7) T rfl hT (td_C C w) (fun S h1 h2 => by
    by_cases h0 : S = 0
    · rw [h0]
      exact Nat.zero_le _
    · rw [td_rm_8 h1 h0]
      exact hw S h1 h0 h2)
  have hg : ∀ i, i < 5 → (fun i => if T.testBit i = true then g i else 7) i < 8 := by
    intro i hi
    show (if T.testBit i = true then g i else 7) < 8
    by_cases q : T.testBit i = true
    · rw [if_pos q]; exact (a i hi q).1
    · rw [if_neg q]; decide
  have hd := td_mk_dg (g := fun i => if T.testBit i = true then g i else 7) hg
  have hlt := td_mk_lt (g := fun i => if T.testBit i = true then g i else 7) hg
  generalize td_mk (fun i => if T.testBit i = true then g i else 7) = c at hd hlt
  have hd1 : ∀ i, i < 5 → T.testBit i = true → td_dg c i = g i := fun i hi q => (hd i hi).trans (if_pos q)
  have hd2 : ∀ i, i < 5 → T.testBit i = false → td_dg c i = 7 := fun i hi q => (hd i hi).trans (if_neg (by rw [q]; decide))
  have hcn : ∀ v, v < 7 → ∀ n, n ≤ 5 → td_cn c n v = td_nu g T v n := by
    intro v hv n
    induction n with
    | zero => intro _; rfl
    | succ n ih =>
      intro hn
      rw [td_cn_s, td_nu_s, ih (by omega)]
      cases q : T.testBit n
      · rw [hd2 n (by omega) q, if_neg (by omega), if_neg (fun z => absurd z.1 (by decide))]
      · rw [hd1 n (by omega) q]
        by_cases u : g n = v
        · rw [if_pos u, if_pos ⟨rfl, u⟩]
        · rw [if_neg u, if_neg (fun z => u z.2)]
  have hlo : ∀ n, n ≤ 5 → td_sz (td_lo c 5) n + td_sz T n = td_nu g T 7 n + n := by
    intro n
    induction n with
    | zero => intro _; rfl
    | succ n ih =>
      intro hn
      have h1 := ih (by omega)
      rw [td_sz_s, td_sz_s, td_nu_s]
      cases q : T.testBit n
      · rw [if_pos ((td_lo_b c 5 n).mpr ⟨by omega, hd2 n (by omega) q⟩), if_neg (by decide), if_neg (fun z => absurd z.1 (by decide))]
        omega
      · rw [if_pos (rfl : true = true)]
        by_cases u : g n = 7
        · rw [if_pos ((td_lo_b c 5 n).mpr ⟨by omega, (hd1 n (by omega) q).trans u⟩), if_pos ⟨rfl, u⟩]
          omega
        · rw [if_neg (fun z => u ((hd1 n (by omega) q).symm.trans ((td_lo_b c 5 n).mp z).2)), if_neg (fun z => u z.2)]
          omega
  refine ⟨c, hlt, td_ok_of (fun i hi => ?_) (fun v hv => ?_), hd2, ?_⟩
  · cases q : T.testBit i
    · exact Or.inl (hd2 i hi q)
    · have h1 := (a i hi q).2
      rw [← hd1 i hi q] at h1
      have h2 : (td_dg c i == 7 || (D i).testBit (td_dg c i)) = true := h1
      rw [Bool.or_eq_true, beq_iff_eq] at h2
      exact h2
  · rw [hcn v hv 5 (by omega)]
    have := b v
    rw [show td_C C w v = C v from if_neg (by omega)] at this
    exact this
  · have h1 := hlo 5 (by omega)
    have h2 := b 7
    rw [show td_C C w 7 = w from if_pos rfl] at h2
    rw [td_sz5 (td_lo_lt c), td_sz5 hT]
    omega
/-! no more than that -/
def td_sg (f : Nat → Nat) : Nat → Nat
  | 0 => 0
  | v + 1 => td_sg f v + f v
theorem td_sg_s (f : Nat → Nat) (v : Nat) : td_sg f (v + 1) = td_sg f v + f v := rfl
theorem td_sg_add (f g : Nat → Nat) (n : Nat) : td_sg (fun v => f v + g v) n = td_sg f n + td_sg g n := by
  induction n with
  | zero => rfl
  | succ n ih =>
    rw [td_sg_s, td_sg_s, td_sg_s, ih]
    omega
theorem td_sg_0 (n : Nat) : td_sg (fun _ => 0) n = 0 := by
  induction n with
  | zero => rfl
  | succ n ih => rw [td_sg_s, ih]
theorem td_sg_1 (t : Bool) (x n : Nat) (hP : t = true) (hx : x < n) : 1 ≤ td_sg (fun v => if t = true ∧ x = v then 1 else 0) n := by
  induction n with
  | zero => exact absurd hx (Nat.not_lt_zero x)
  | succ n ih =>
    rw [td_sg_s]
    by_cases q : x = n
    · rw [if_pos ⟨hP, q⟩]
      exact Nat.le_add_left _ _
    · exact Nat.le_trans (ih (by omega)) (Nat.le_add_right _ _)
theorem td_nu_cn {c S v : Nat} (n : Nat) : td_nu (td_dg c) S v n ≤ td_cn c n v := by
  induction n with
  | zero => exact Nat.le_refl 0
  | succ n ih =>
    rw [td_nu_s, td_cn_s]
    by_cases q : td_dg c n = v
    · rw [if_pos q]
      by_cases u : S.testBit n = true
      · rw [if_pos ⟨u, q⟩]; omega
      · rw [if_neg (fun z => u z.1)]; omega
    · rw [if_neg q, if_neg (fun z => q z.2)]; omega
theorem td_sum {c S : Nat} (n : Nat) (hn : n ≤ 5) : td_sz (S ||| td_lo c 5) n ≤ td_sg (fun v => td_nu (td_dg c) S v n) 7 + td_sz (td_lo c 5) n := by
  induction n with
  | zero => exact Nat.zero_le _
  | succ n ih =>
    have h1 := ih (by omega)
    have e : td_sg (fun v => td_nu (td_dg c) S v (n + 1)) 7 = td_sg (fun v => td_nu (td_dg c) S v n) 7 + td_sg (fun v => if S.testBit n = true ∧ td_dg c n = v then 1 else 0) 7 := td_sg_add _ _ 7
    rw [td_sz_s, td_sz_s, e, Nat.testBit_or]
    by_cases q : (td_lo c 5).testBit n = true
    · rw [q, Bool.or_true, if_pos rfl]
      omega
    · have q2 : td_dg c n ≠ 7 := fun z => q ((td_lo_b c 5 n).mpr ⟨by omega, z⟩)
      have q3 := td_dg_lt c n
      rw [Bool.eq_false_iff.mpr q, Bool.or_false, if_neg (show ¬ false = true from by decide)]
      by_cases u : S.testBit n = true
      · have h2 := td_sg_1 (S.testBit n) (td_dg c n) 7 u (by omega)
        rw [if_pos u]
        omega
      · rw [if_neg u]
        omega
theorem td_sg_rm {D C : Nat → Nat} {c S : Nat} (h : td_ok D C c 5 = true) (n : Nat) (hn : n ≤ 7) : td_sg (fun v => td_nu (td_dg c) S v 5) n ≤ td_sm C (td_un D S 5) n := by
  induction n with
  | zero => exact Nat.le_refl 0
  | succ n ih =>
    have h1 := ih (by omega)
    rw [td_sg_s]
    by_cases q : (td_un D S 5).testBit n = true
    · rw [td_sm_t (td_tb1.mpr q)]
      have h2 := td_nu_cn (c := c) (S := S) (v := n) 5
      have h3 := td_ok_cn 5 h n (by omega)
      show _ + td_nu (td_dg c) S n 5 ≤ _
      omega
    · rw [td_sm_f (fun z => q (td_tb1.mp z))]
      have h2 : td_nu (td_dg c) S n 5 = 0 := by
        refine td_nu_0 5 (fun i hi hS z => q ?_)
        rw [td_un_b, td_ub_iff]
        refine ⟨i, hi, hS, ?_⟩
        rcases (td_ok_iff 5).mp h i hi with y | y
        · omega
        · rw [z] at y
          exact y.1
      show _ + td_nu (td_dg c) S n 5 ≤ _
      omega
theorem td_up {D C : Nat → Nat} {c S : Nat} (h : td_ok D C c 5 = true) (hS : S < 32) : td_sz (S ||| td_lo c 5) 7 ≤ td_room D C S + td_sz (td_lo c 5) 7 := by
  have hl := td_lo_lt c
  rw [td_sz5 (Nat.or_lt_two_pow (n := 5) hS hl), td_sz5 hl]
  exact Nat.le_trans (td_sum 5 (by omega)) (Nat.add_le_add_right (td_sg_rm h 7 (by omega)) _)
theorem td_or_sub (S T : Nat) : S &&& (S ||| T) = S := by
  apply Nat.eq_of_testBit_eq
  intro j
  rw [Nat.testBit_and, Nat.testBit_or]
  cases S.testBit j <;> cases T.testBit j <;> rfl
/-- what the reference finds: the worst lack of the sets within T -/
def td_W (D C : Nat → Nat) (T w : Nat) : Prop := (∀ S, S < 32 → S ≠ 0 → S &&& T = S → td_sz S 7 ≤ td_room D C S + w) ∧ (w = 0 ∨ ∃ S, S < 32 ∧ S ≠ 0 ∧ S &&& T = S ∧ td_sz S 7 = td_room D C S + w)
/-- what the class finds: the greatest number of places of a part filling -/
def td_M (D C : Nat → Nat) (m : Nat) : Prop := (∀ c, c < 32768 → td_ok D C c 5 = true → 5 ≤ m + td_sz (td_lo c 5) 7) ∧ ∃ c, c < 32768 ∧ td_ok D C c 5 = true ∧ m + td_sz (td_lo c 5) 7 = 5
theorem td_W_le {D C : Nat → Nat} {T w : Nat} (hT : T < 32) (h : td_W D C T w) : w ≤ td_sz T 7 := by
  rcases h.2 with z | ⟨S, a, _, b, e⟩
  · omega
  · have := td_t6 S a T hT b
    omega
theorem td_sz31 : td_sz 31 7 = 5 := by decide +kernel
theorem td_MW {D C : Nat → Nat} {m w : Nat} (hM : td_M D C m) (hW : td_W D C 31 w) : m + w = 5 := by
  obtain ⟨c, hc, hok, _, hs⟩ := td_ex (D := D) (C := C) (T := 31) (w := w) (by decide) hW.1
  rw [td_sz31] at hs
  have h1 := hM.1 c hc hok
  obtain ⟨c', hc', hok', hs'⟩ := hM.2
  rcases hW.2 with z | ⟨S, a, _, _, e⟩
  · omega
  · have h2 := td_up hok' a
    have h3 := td_t6 S a _ (Nat.or_lt_two_pow (n := 5) a (td_lo_lt c')) (td_or_sub S _)
    omega
theorem td_T4 : ∀ i, i < 5 → 31 ^^^ 2 ^ i < 32 ∧ td_sz (31 ^^^ 2 ^ i) 7 = 4 ∧ (31 ^^^ 2 ^ i).testBit i = false := by decide +kernel
theorem td_spare {D C : Nat → Nat} {m w wi i : Nat} (hi : i < 5) (hM : td_M D C m) (hW : td_W D C 31 w) (hWi : td_W D C (31 ^^^ 2 ^ i) wi) : (∃ c, c < 32768 ∧ td_sz (td_lo c 5) 7 = 5 - m ∧ td_ok D C c 5 = true ∧ td_dg c i = 7) ↔ w = wi + 1 := by
  have hmw := td_MW hM hW
  obtain ⟨t1, t2, t3⟩ := td_T4 i hi
  obtain ⟨c', hc', hok', ho', hs'⟩ := td_ex (D := D) (C := C) (T := 31 ^^^ 2 ^ i) (w := wi) t1 hWi.1
  have h1 := hM.1 c' hc' hok'
  have h2 := ho' i hi t3
  rw [t2] at hs'
  constructor
  · intro ⟨c, hc, hs, hok, hd⟩
    have hb : (td_lo c 5).testBit i = true := (td_lo_b c 5 i).mpr ⟨hi, hd⟩
    have k4 := td_t4 i hi
    have hge : wi + 1 ≤ td_sz (td_lo c 5) 7 := by
      have k7 := td_t7 _ (td_lo_lt c) i hi hb
      rcases hWi.2 with z | ⟨S, a, _, b, e⟩
      · have := td_t6 (2 ^ i) k4.2 _ (td_lo_lt c) k7
        omega
      · have u1 := td_up hok a
        have u2 : S &&& 2 ^ i = 0 := by
          apply Nat.eq_of_testBit_eq
          intro j
          rw [Nat.testBit_and, Nat.zero_testBit, Nat.testBit_two_pow]
          by_cases q : i = j
          · subst q
            cases y : S.testBit i
            · rfl
            · have := td_sub b y
              rw [t3] at this
              exact absurd this (by decide)
          · rw [decide_eq_false q, Bool.and_false]
        have u3 := td_t2 S a (2 ^ i) k4.2 u2
        have u4 := td_t6 (S ||| 2 ^ i) (Nat.or_lt_two_pow (n := 5) a k4.2) (S ||| td_lo c 5) (Nat.or_lt_two_pow (n := 5) a (td_lo_lt c)) (by
          apply Nat.eq_of_testBit_eq
          intro j
          rw [Nat.testBit_and, Nat.testBit_or, Nat.testBit_or, Nat.testBit_two_pow]
          by_cases q : i = j
          · subst q
            rw [hb]
            cases S.testBit i <;> simp
          · rw [decide_eq_false q]
            cases S.testBit j <;> cases (td_lo c 5).testBit j <;> rfl)
        omega
    omega
  · intro z
    refine ⟨c', hc', ?_, hok', h2⟩
    omega
