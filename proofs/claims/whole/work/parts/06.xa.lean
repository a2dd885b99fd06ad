/-! the class against the picture -/
def td_R (D C : Nat → Nat) (dm cp : Nat → Int32) : Prop := (∀ i, i < 5 → dm i = nI (D i) ∧ D i < 128) ∧ (∀ v, v < 7 → cp v = nI (C v) ∧ C v ≤ 3)
theorem tr_d {D C : Nat → Nat} {dm cp : Nat → Int32} (R : td_R D C dm cp) {i : Nat} (hi : i < 5) : dm (nI i).toNatClampNeg = nI (D i) := by
  rw [nI_clamp (by omega)]
  exact (R.1 i hi).1
theorem tr_c {D C : Nat → Nat} {dm cp : Nat → Int32} (R : td_R D C dm cp) {v : Nat} (hv : v < 7) : cp (nI v).toNatClampNeg = nI (C v) := by
  rw [nI_clamp (by omega)]
  exact (R.2 v hv).1
theorem tr_dl {D C : Nat → Nat} {dm cp : Nat → Int32} (R : td_R D C dm cp) {i : Nat} (hi : i < 5) : D i < 128 := (R.1 i hi).2
theorem tr_cl {D C : Nat → Nat} {dm cp : Nat → Int32} (R : td_R D C dm cp) {v : Nat} (hv : v < 7) : C v ≤ 3 := (R.2 v hv).2
theorem td_m4 {c : Nat} (h : c < 2 ^ 31) : ¬ nI c = -4 := by
  intro z
  have := nI_pos h
  rw [z] at this
  exact this (by decide)
theorem tx_pl1 {post : Int32 → Prop} {i : Nat} (hi : i < 5) (h : post 1) : wpX_isPlace post (nI i) := br_f (nI_pos (by omega)) (br_f (nI_ge (b := 5) hi (by decide)) h)
theorem tx_pl0 {post : Int32 → Prop} {x : Int32} (hx : x < 0 ∨ nI 5 ≤ x) (h : post 0) : wpX_isPlace post x := by
  by_cases q : x < 0
  · exact br_t q h
  · rcases hx with z | z
    · exact absurd z q
    · exact br_f q (br_t z h)
theorem tx_vl1 {post : Int32 → Prop} {i : Nat} (hi : i < 7) (h : post 1) : wpX_isValue post (nI i) := br_f (nI_pos (by omega)) (br_f (nI_ge (b := 7) hi (by decide)) h)
theorem tx_vl0 {post : Int32 → Prop} {x : Int32} (hx : x < 0 ∨ nI 7 ≤ x) (h : post 0) : wpX_isValue post x := by
  by_cases q : x < 0
  · exact br_t q h
  · rcases hx with z | z
    · exact absurd z q
    · exact br_f q (br_t z h)
theorem tx_in {post : Int32 → Prop} {m s : Nat} (hs : s < 2 ^ 31) (hm : m < 32) (h1 : s.testBit m = true → post 1) (h0 : s.testBit m = false → post 0) : wpX_isIn post (nI m) (nI s) := by
  unfold wpX_isIn
  rw [td_bit hs hm]
  by_cases q : s.testBit m = true
  · rw [td_tb1.mpr q]
    exact br_f (by decide) (h1 q)
  · have e : s / 2 ^ m % 2 = 0 := by
      have z : ¬ s / 2 ^ m % 2 = 1 := fun z => q (td_tb1.mp z)
      omega
    rw [e]
    exact br_t nI_0 (h0 (Bool.eq_false_iff.mpr q))
theorem tx_va {post : Int32 → Prop} {c i : Nat} (hc : c < 32768) (hi : i < 5) (h : post (nI (td_dg c i))) : wpX_valueAt post (nI c) (nI i) := by
  unfold wpX_valueAt
  rw [td_val hc i hi]
  exact h
theorem tx_pf {post : Int32 → Prop} {D C : Nat → Nat} {dm cp : Nat → Int32} {c : Nat} (R : td_R D C dm cp) (hc : c < 32768) (h1 : td_ok D C c 5 = true → post 1) (h0 : td_ok D C c 5 = false → post 0) : wpX_isPartFilling post (dm, cp) (nI c) := by
  show ∃ n4 : Nat, wX_isPartFilling_4 post (nI c) dm cp n4 0 0
  refine loop_0 (fun n i s => wX_isPartFilling_4 post (nI c) dm cp n s (nI i)) (fun i s => s = nI (td_pk (td_cn c i)) ∧ td_ok D C c i = true) 5 0 ⟨rfl, rfl⟩ ?_ ?_
  · intro n s hs
    exact br_t (by decide) (h1 hs.2)
  · intro n i s hi hs ih
    obtain ⟨hs, hok⟩ := hs
    have hd := td_dg_lt c i
    have hcn := td_cn_le c (i + 1) (td_dg c i)
    refine br_f (nI_ge (b := 5) hi (by decide)) (tx_va hc hi ?_)
    refine pk_eq (td_dg c i) 7 (fun h7 => ?_) (fun h7 => ?_)
    · exact nm_r (nI_1 i) (ih s ⟨by rw [td_pk_s7 h7]; exact hs, td_ok_s.mpr ⟨hok, Or.inl h7⟩⟩)
    · have hv : td_dg c i < 7 := by omega
      have e1 : s + ((1 : Int32) <<< ((3 * nI (td_dg c i)) &&& 31)) = nI (td_pk (td_cn c (i + 1))) := by
        rw [hs, td_cnt7 _ hv, td_sh1 (by omega), nI_add, td_pk_add hv]
      have hpk : td_pk (td_cn c (i + 1)) < 2097152 := td_pk_lt (fun v => Nat.le_trans (td_cn_le c (i + 1) v) (by omega))
      have e2 : (nI (td_pk (td_cn c (i + 1))) >>> ((3 * nI (td_dg c i)) &&& 31)) &&& 7 = nI (td_cn c (i + 1) (td_dg c i)) := by
        rw [td_cnt7 _ hv, td_shr (by omega) (by omega), td_and7 (Nat.lt_trans (td_lt1 (by omega)) (by decide)), td_pk_get (fun v => Nat.le_trans (td_cn_le c (i + 1) v) (by omega)) _ hv]
      have hbad : ∀ z : ¬ ((D i).testBit (td_dg c i) = true ∧ td_cn c (i + 1) (td_dg c i) ≤ C (td_dg c i)), td_ok D C c 5 = false := by
        intro z
        apply Bool.eq_false_iff.mpr
        intro y
        rcases (td_ok_iff 5).mp y i hi with q | q
        · exact h7 q
        · exact z q
      refine nm_r e1 (nm_r e2 ⟨vp_in_nI hi (by decide), ?_⟩)
      rw [tr_d R hi]
      have hdl := tr_dl R hi
      refine tx_in (by omega) (by omega) (fun hb => ?_) (fun hb => ?_)
      · refine br_f (by decide) ⟨vp_in_nI hv (by decide), ?_⟩
        rw [tr_c R hv]
        have hcl := tr_cl R hv
        exact pk_le (td_cn c (i + 1) (td_dg c i)) (C (td_dg c i)) (fun hl => nm_r (nI_1 i) (ih _ ⟨rfl, td_ok_s.mpr ⟨hok, Or.inr ⟨hb, hl⟩⟩⟩)) (fun hl => h0 (hbad (fun z => by omega)))
      · exact br_t rfl (h0 (hbad (fun z => by rw [hb] at z; exact absurd z.1 (by decide))))
theorem td_lo_t {c i : Nat} (h : td_dg c i = 7) : td_lo c (i + 1) = td_lo c i ||| 2 ^ i := if_pos (beq_iff_eq.mpr h)
theorem td_lo_f {c i : Nat} (h : td_dg c i ≠ 7) : td_lo c (i + 1) = td_lo c i := if_neg (fun z => h (beq_iff_eq.mp z))
theorem tx_lo {post : Int32 → Prop} {c : Nat} (hc : c < 32768) (h : post (nI (td_lo c 5))) : wpX_leftOut post (nI c) := by
  unfold wpX_leftOut
  refine loop_0 (fun n i s => wX_leftOut_4 post (nI c) n s (nI i)) (fun i s => s = nI (td_lo c i)) 5 0 rfl ?_ ?_
  · intro n s hs
    refine br_t (by decide) ?_
    have hs : s = nI (td_lo c 5) := hs
    rw [hs]
    exact h
  · intro n i s hi hs ih
    have hs : s = nI (td_lo c i) := hs
    have hd := td_dg_lt c i
    refine br_f (nI_ge (b := 5) hi (by decide)) (tx_va hc hi ?_)
    refine pk_eq (td_dg c i) 7 (fun h7 => ?_) (fun h7 => ?_)
    · have e : s ||| ((1 : Int32) <<< (nI i &&& 31)) = nI (td_lo c (i + 1)) := by
        rw [hs, td_sh1 (by omega), td_nor, td_lo_t h7]
      exact nm_r e (nm_r (nI_1 i) (ih _ rfl))
    · refine nm_r (nI_1 i) (ih s ?_)
      show s = nI (td_lo c (i + 1))
      rw [td_lo_f h7]
      exact hs
theorem tx_fl {post : Int32 → Prop} {D C : Nat → Nat} {dm cp : Nat → Int32} {c : Nat} (R : td_R D C dm cp) (hc : c < 32768) (h1 : td_fl D C c = true → post 1) (h0 : td_fl D C c = false → post 0) : wpX_isFilling post (dm, cp) (nI c) := by
  unfold wpX_isFilling
  dsimp only
  have hl := td_lo_lt c
  refine tx_pf R hc (fun a => br_f (by decide) (tx_lo hc ?_)) (fun a => br_t rfl (h0 ?_))
  · refine pk_eq (td_lo c 5) 0 (fun e => h1 ?_) (fun e => h0 ?_)
    · unfold td_fl
      rw [a, e]
      rfl
    · unfold td_fl
      rw [a, Bool.true_and]
      exact beq_eq_false_iff_ne.mpr e
  · unfold td_fl
    rw [a]
    rfl
theorem tx_ff {post : Int32 → Prop} {D C : Nat → Nat} {dm cp : Nat → Int32} (R : td_R D C dm cp) (h1 : ∀ c, c < 32768 → td_fl D C c = true → (∀ b, b < c → td_fl D C b = false) → post (nI c)) (h0 : (∀ c, c < 32768 → td_fl D C c = false) → post (-4)) : wpX_firstFilling post (dm, cp) := by
  show ∃ n2 : Nat, wX_firstFilling_2 post dm cp n2 0
  refine loop_0 (fun n i (_ : Unit) => wX_firstFilling_2 post dm cp n (nI i)) (fun i _ => ∀ b, b < i → td_fl D C b = false) 32768 () (fun b hb => absurd hb (Nat.not_lt_zero b)) ?_ ?_
  · intro n s hs
    exact br_t (by decide) (h0 hs)
  · intro n i s hi hs ih
    refine br_f (nI_ge (b := 32768) hi (by decide)) (tx_fl R hi (fun a => ?_) (fun a => ?_))
    · exact br_f (by decide) (h1 i hi a hs)
    · exact br_t rfl (nm_r (nI_1 i) (ih () (lt_s hs a)))
theorem tx_sz {post : Int32 → Prop} {s : Nat} (hs : s < 2 ^ 31) (h : post (nI (td_sz s 7))) : wpX_sizeOf post (nI s) := by
  unfold wpX_sizeOf
  refine loop_0 (fun n i x => wX_sizeOf_4 post (nI s) n x (nI i)) (fun i x => x = nI (td_sz s i)) 7 0 rfl ?_ ?_
  · intro n x hx
    refine br_t (by decide) ?_
    have hx : x = nI (td_sz s 7) := hx
    rw [hx]
    exact h
  · intro n i x hi hx ih
    have hx : x = nI (td_sz s i) := hx
    have e : x + ((nI s >>> (nI i &&& 31)) &&& 1) = nI (td_sz s (i + 1)) := by
      rw [hx, td_bit hs (by omega), nI_add]
      rfl
    exact br_f (nI_ge (b := 7) hi (by decide)) (nm_r e (nm_r (nI_1 i) (ih _ rfl)))
