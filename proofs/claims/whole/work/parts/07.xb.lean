theorem td_all (D C : Nat → Nat) : td_ok D C 32767 5 = true ∧ td_sz (td_lo 32767 5) 7 = 5 := by
  constructor
  · rw [td_ok_iff]
    intro i hi
    exact Or.inl ((by decide : ∀ i, i < 5 → td_dg 32767 i = 7) i hi)
  · decide +kernel
theorem tx_most {post : Int32 → Prop} {D C : Nat → Nat} {dm cp : Nat → Int32} (R : td_R D C dm cp) (h : ∀ m, m ≤ 5 → td_M D C m → post (nI m)) : wpX_most post (dm, cp) := by
  show ∃ n4 : Nat, wX_most_4 post dm cp n4 0 0
  refine loop_0 (fun n i s => wX_most_4 post dm cp n s (nI i)) (fun i s => ∃ m, m ≤ 5 ∧ s = nI m ∧ (∀ c, c < i → td_ok D C c 5 = true → 5 ≤ m + td_sz (td_lo c 5) 7) ∧ (m = 0 ∨ ∃ c, c < i ∧ td_ok D C c 5 = true ∧ m + td_sz (td_lo c 5) 7 = 5)) 32768 0 ⟨0, by omega, rfl, fun c hc => absurd hc (Nat.not_lt_zero c), Or.inl rfl⟩ ?_ ?_
  · intro n s hs
    obtain ⟨m, h5, hs, ha, hb⟩ := hs
    refine br_t (by decide) ?_
    rw [hs]
    refine h m h5 ⟨ha, ?_⟩
    rcases hb with z | z
    · exact ⟨32767, by omega, (td_all D C).1, by rw [(td_all D C).2, z]⟩
    · exact z
  · intro n i s hi hs ih
    obtain ⟨m, h5, hs, ha, hb⟩ := hs
    refine br_f (nI_ge (b := 32768) hi (by decide)) (tx_pf R hi (fun a => ?_) (fun a => ?_))
    · have hl := td_lo_lt i
      have hz : td_sz (td_lo i 5) 7 ≤ 5 := by
        rw [td_sz5 hl]
        exact td_sz_le _ 5
      refine br_f (by decide) (tx_lo hi (tx_sz (by omega) ?_))
      refine nm_r (pk_sub (a := 5) hz) ?_
      rw [hs]
      refine pk_le (5 - td_sz (td_lo i 5) 7) m (fun hl => ?_) (fun hl => ?_)
      · refine nm_r (nI_1 i) (ih _ ⟨m, h5, rfl, lt_s ha (fun _ => by omega), ?_⟩)
        rcases hb with z | ⟨c, hc, z⟩
        · exact Or.inl z
        · exact Or.inr ⟨c, by omega, z⟩
      · refine nm_r (nI_1 i) (ih _ ⟨5 - td_sz (td_lo i 5) 7, by omega, rfl, lt_s (fun c hc hok => ?_) (fun _ => by omega), Or.inr ⟨i, by omega, a, by omega⟩⟩)
        have := ha c hc hok
        omega
    · refine br_t rfl (nm_r (nI_1 i) (ih _ ⟨m, h5, hs, lt_s ha (fun z => ?_), ?_⟩))
      · rw [a] at z
        exact absurd z (by decide)
      · rcases hb with z | ⟨c, hc, z⟩
        · exact Or.inl z
        · exact Or.inr ⟨c, by omega, z⟩
theorem tx_su {post : Int32 → Prop} {D C : Nat → Nat} {dm cp : Nat → Int32} {i : Nat} (R : td_R D C dm cp) (hi : i < 5) (h : post (nI (td_su D C i))) : wpX_support post (dm, cp) (nI i) := by
  unfold wpX_support
  dsimp only
  refine tx_pl1 hi (br_f (by decide) ?_)
  refine loop_0 (fun n k s => wX_support_13 post (nI i) dm cp n s (nI k)) (fun k s => s = nI (td_or (td_fl D C) (fun c => 2 ^ td_dg c i) k)) 32768 0 rfl ?_ ?_
  · intro n s hs
    refine br_t (by decide) ?_
    have hs : s = nI (td_su D C i) := hs
    rw [hs]
    exact h
  · intro n k s hk hs ih
    have hs : s = nI (td_or (td_fl D C) (fun c => 2 ^ td_dg c i) k) := hs
    refine br_f (nI_ge (b := 32768) hk (by decide)) (tx_fl R hk (fun a => ?_) (fun a => ?_))
    · refine br_f (by decide) (tx_va hk hi ?_)
      have hd := td_dg_lt k i
      have e : s ||| ((1 : Int32) <<< (nI (td_dg k i) &&& 31)) = nI (td_or (td_fl D C) (fun c => 2 ^ td_dg c i) (k + 1)) := by
        rw [hs, td_sh1 (by omega), td_nor, td_or_t a]
      exact nm_r e (nm_r (nI_1 k) (ih _ rfl))
    · refine br_t rfl (nm_r (nI_1 k) (ih s ?_))
      show s = nI (td_or (td_fl D C) (fun c => 2 ^ td_dg c i) (k + 1))
      rw [td_or_f a]
      exact hs
/-- how many values pruning takes out of the first n domains -/
def td_gn (D C : Nat → Nat) : Nat → Nat
  | 0 => 0
  | i + 1 => td_gn D C i + td_sz (D i &&& (td_su D C i ^^^ 127)) 7
theorem td_Dk_0 {D C : Nat → Nat} {dm cp : Nat → Int32} (R : td_R D C dm cp) : td_R (td_Dk D C 0) C dm cp := ⟨fun i hi => by rw [show td_Dk D C 0 i = D i from if_neg (Nat.not_lt_zero i)]; exact R.1 i hi, R.2⟩
theorem td_Dk_s {D C : Nat → Nat} {dm cp : Nat → Int32} {k : Nat} (hk : k < 5) (R : td_R (td_Dk D C k) C dm cp) : td_R (td_Dk D C (k + 1)) C (upd dm (nI k).toNatClampNeg (nI (td_su D C k))) cp := by
  rw [nI_clamp (show k < 2 ^ 31 from by omega)]
  refine ⟨fun i hi => ?_, R.2⟩
  by_cases q : i = k
  · subst q
    rw [pk_us, show td_Dk D C (i + 1) i = td_su D C i from if_pos (by omega)]
    exact ⟨rfl, td_su_lt hi⟩
  · rw [pk_un q]
    have e : td_Dk D C (k + 1) i = td_Dk D C k i := by
      show (if i < k + 1 then td_su D C i else D i) = (if i < k then td_su D C i else D i)
      by_cases z : i < k
      · rw [if_pos z, if_pos (by omega)]
      · rw [if_neg z, if_neg (by omega)]
    rw [e]
    exact R.1 i hi
theorem tx_prune {post : Int32 → SX → Prop} {D C : Nat → Nat} {dm cp : Nat → Int32} (R : td_R D C dm cp) (h0 : (∀ c, c < 32768 → td_fl D C c = false) → post (-4) (dm, cp)) (h1 : ∀ c, c < 32768 → td_fl D C c = true → ∀ dm', td_R (td_Dk D C 5) C dm' cp → post (nI (td_gn D C 5)) (dm', cp)) : wpX_prune post (dm, cp) := by
  unfold wpX_prune
  dsimp only
  refine tx_ff R (fun c hc hf _ => br_f (td_m4 (by omega)) ?_) (fun z => br_t rfl (h0 z))
  refine loop_0 (fun n k (s : Int32 × (Nat → Int32)) => wX_prune_16 post n s.1 (nI k) s.2 cp) (fun k s => s.1 = nI (td_gn D C k) ∧ td_R (td_Dk D C k) C s.2 cp) 5 (0, dm) ⟨rfl, td_Dk_0 R⟩ ?_ ?_
  · intro n s hs
    obtain ⟨g, d⟩ := s
    obtain ⟨hg, hd⟩ := hs
    have hg : g = nI (td_gn D C 5) := hg
    refine br_t (by decide) ?_
    show post g (d, cp)
    rw [hg]
    exact h1 c hc hf d hd
  · intro n k s hk hs ih
    obtain ⟨g, d⟩ := s
    obtain ⟨hg, hd⟩ := hs
    have hg : g = nI (td_gn D C k) := hg
    have hd : td_R (td_Dk D C k) C d cp := hd
    have hDk : td_Dk D C k k = D k := if_neg (Nat.lt_irrefl k)
    have hl := tr_dl hd hk
    rw [hDk] at hl
    refine br_f (nI_ge (b := 5) hk (by decide)) (tx_su hd hk ?_)
    rw [td_Dk_su]
    refine ⟨vp_in_nI hk (by decide), ?_⟩
    show wpX_sizeOf _ ((d (nI k).toNatClampNeg) &&& (nI (td_su D C k) ^^^ (-1)))
    rw [tr_d hd hk, hDk, td_clr hl]
    refine tx_sz (Nat.lt_of_le_of_lt Nat.and_le_left (by omega)) ?_
    have e : g + nI (td_sz (D k &&& (td_su D C k ^^^ 127)) 7) = nI (td_gn D C (k + 1)) := by
      rw [hg, nI_add]
      rfl
    exact nm_r e ⟨vp_in_nI hk (by decide), nm_e (nm_r (nI_1 k) (ih (_, _) ⟨rfl, td_Dk_s hk hd⟩))⟩
theorem tx_count {post : Int32 → Prop} {D C : Nat → Nat} {dm cp : Nat → Int32} (R : td_R D C dm cp) (h : post (nI (td_ct (td_fl D C) 32768))) : wpX_count post (dm, cp) := by
  show ∃ n4 : Nat, wX_count_4 post dm cp n4 0 0
  refine loop_0 (fun n k s => wX_count_4 post dm cp n s (nI k)) (fun k s => s = nI (td_ct (td_fl D C) k)) 32768 0 rfl ?_ ?_
  · intro n s hs
    refine br_t (by decide) ?_
    have hs : s = nI (td_ct (td_fl D C) 32768) := hs
    rw [hs]
    exact h
  · intro n k s hk hs ih
    have hs : s = nI (td_ct (td_fl D C) k) := hs
    refine br_f (nI_ge (b := 32768) hk (by decide)) (tx_fl R hk (fun a => ?_) (fun a => ?_))
    · have e : s + 1 = nI (td_ct (td_fl D C) (k + 1)) := by
        rw [hs, nI_1, td_ct_t a]
      exact br_f (by decide) (nm_r e (nm_r (nI_1 k) (ih _ rfl)))
    · refine br_t rfl (nm_r (nI_1 k) (ih s ?_))
      show s = nI (td_ct (td_fl D C) (k + 1))
      rw [td_ct_f a]
      exact hs
theorem tx_uses {post : Int32 → Prop} {c v : Nat} (hc : c < 32768) (hv : v < 7) (h : post (nI (td_cn c 5 v))) : wpX_usesOf post (nI c) (nI v) := by
  unfold wpX_usesOf
  refine loop_0 (fun n i s => wX_usesOf_4 post (nI c) (nI v) n s (nI i)) (fun i s => s = nI (td_cn c i v)) 5 0 rfl ?_ ?_
  · intro n s hs
    refine br_t (by decide) ?_
    have hs : s = nI (td_cn c 5 v) := hs
    rw [hs]
    exact h
  · intro n i s hi hs ih
    have hs : s = nI (td_cn c i v) := hs
    have hd := td_dg_lt c i
    refine br_f (nI_ge (b := 5) hi (by decide)) (tx_va hc hi ?_)
    refine pk_eq (td_dg c i) v (fun q => ?_) (fun q => ?_)
    · have e : s + 1 = nI (td_cn c (i + 1) v) := by
        rw [hs, nI_1, td_cn_s, if_pos q]
      exact nm_r e (nm_r (nI_1 i) (ih _ rfl))
    · refine nm_r (nI_1 i) (ih s ?_)
      show s = nI (td_cn c (i + 1) v)
      rw [td_cn_s, if_neg q]
      exact hs
theorem td_fu_t {C : Nat → Nat} {c v : Nat} (h : 0 < C v ∧ td_cn c 5 v = C v) : td_fu C c (v + 1) = td_fu C c v ||| 2 ^ v := if_pos (decide_eq_true h)
theorem td_fu_f {C : Nat → Nat} {c v : Nat} (h : ¬ (0 < C v ∧ td_cn c 5 v = C v)) : td_fu C c (v + 1) = td_fu C c v := if_neg (fun z => h (of_decide_eq_true z))
theorem tx_uu {post : Int32 → Prop} {D C : Nat → Nat} {dm cp : Nat → Int32} {c : Nat} (R : td_R D C dm cp) (hc : c < 32768) (h : post (nI (td_fu C c 7))) : wpX_usedUp post (dm, cp) (nI c) := by
  show ∃ n4 : Nat, wX_usedUp_4 post (nI c) dm cp n4 0 0
  refine loop_0 (fun n v s => wX_usedUp_4 post (nI c) dm cp n s (nI v)) (fun v s => s = nI (td_fu C c v)) 7 0 rfl ?_ ?_
  · intro n s hs
    refine br_t (by decide) ?_
    have hs : s = nI (td_fu C c 7) := hs
    rw [hs]
    exact h
  · intro n v s hv hs ih
    have hs : s = nI (td_fu C c v) := hs
    have hcl := tr_cl R hv
    have hcn := td_cn_le c 5 v
    refine br_f (nI_ge (b := 7) hv (by decide)) ⟨vp_in_nI hv (by decide), ?_⟩
    rw [tr_c R hv]
    have hkeep : ¬ (0 < C v ∧ td_cn c 5 v = C v) → s = nI (td_fu C c (v + 1)) := by
      intro z
      rw [td_fu_f z]
      exact hs
    refine pk_le (C v) 0 (fun q => ?_) (fun q => ?_)
    · exact nm_r (nI_1 v) (ih s (hkeep (fun z => by omega)))
    · refine tx_uses hc hv ⟨vp_in_nI hv (by decide), ?_⟩
      refine pk_eq (td_cn c 5 v) (C v) (fun e => ?_) (fun e => ?_)
      · have e2 : s ||| ((1 : Int32) <<< (nI v &&& 31)) = nI (td_fu C c (v + 1)) := by
          rw [hs, td_sh1 (by omega), td_nor, td_fu_t ⟨q, e⟩]
        exact nm_r e2 (nm_r (nI_1 v) (ih _ rfl))
      · exact nm_r (nI_1 v) (ih s (hkeep (fun z => e z.2)))
theorem tx_ex {post : Int32 → Prop} {D C : Nat → Nat} {dm cp : Nat → Int32} (R : td_R D C dm cp) (h0 : (∀ c, c < 32768 → td_fl D C c = false) → post (-4)) (h1 : ∀ c, c < 32768 → td_fl D C c = true → post (nI (td_al (td_fl D C) (fun c => td_fu C c 7) 32768))) : wpX_exhausted post (dm, cp) := by
  unfold wpX_exhausted
  dsimp only
  refine tx_ff R (fun c hc hf _ => br_f (td_m4 (by omega)) ?_) (fun z => br_t rfl (h0 z))
  refine loop_0 (fun n k s => wX_exhausted_17 post dm cp n s (nI k)) (fun k s => s = nI (td_al (td_fl D C) (fun c => td_fu C c 7) k)) 32768 127 rfl ?_ ?_
  · intro n s hs
    refine br_t (by decide) ?_
    have hs : s = nI (td_al (td_fl D C) (fun c => td_fu C c 7) 32768) := hs
    rw [hs]
    exact h1 c hc hf
  · intro n k s hk hs ih
    have hs : s = nI (td_al (td_fl D C) (fun c => td_fu C c 7) k) := hs
    refine br_f (nI_ge (b := 32768) hk (by decide)) (tx_fl R hk (fun a => ?_) (fun a => ?_))
    · refine br_f (by decide) (tx_uu R hk ?_)
      have e : s &&& nI (td_fu C k 7) = nI (td_al (td_fl D C) (fun c => td_fu C c 7) (k + 1)) := by
        rw [hs, nx_and, td_al_t a]
      exact nm_r e (nm_r (nI_1 k) (ih _ rfl))
    · refine br_t rfl (nm_r (nI_1 k) (ih s ?_))
      show s = nI (td_al (td_fl D C) (fun c => td_fu C c 7) (k + 1))
      rw [td_al_f a]
      exact hs
theorem tx_un {post : Int32 → Prop} {D C : Nat → Nat} {dm cp : Nat → Int32} (R : td_R D C dm cp) (h0 : (∀ c, c < 32768 → td_fl D C c = false) → post (-4)) (h1 : ∀ c, c < 32768 → td_fl D C c = true → post (127 &&& (nI (td_us D C 5) ^^^ (-1)))) : wpX_unused post (dm, cp) := by
  unfold wpX_unused
  dsimp only
  refine tx_ff R (fun c hc hf _ => br_f (td_m4 (by omega)) ?_) (fun z => br_t rfl (h0 z))
  refine loop_0 (fun n k s => wX_unused_16 post dm cp n s (nI k)) (fun k s => s = nI (td_us D C k)) 5 0 rfl ?_ ?_
  · intro n s hs
    refine br_t (by decide) ?_
    have hs : s = nI (td_us D C 5) := hs
    rw [hs]
    exact h1 c hc hf
  · intro n k s hk hs ih
    have hs : s = nI (td_us D C k) := hs
    have e : s ||| nI (td_su D C k) = nI (td_us D C (k + 1)) := by
      rw [hs, td_nor]
      rfl
    exact br_f (nI_ge (b := 5) hk (by decide)) (tx_su R hk (nm_r e (nm_r (nI_1 k) (ih _ rfl))))
theorem tx_room {post : Int32 → Prop} {D C : Nat → Nat} {dm cp : Nat → Int32} {S : Nat} (R : td_R D C dm cp) (hS : S < 32) (h : post (nI (td_room D C S))) : wpX_room post (dm, cp) (nI S) := by
  show ∃ n4 : Nat, wX_room_4 post (nI S) dm cp n4 0 0
  have hul : ∀ k, k ≤ 5 → td_un D S k < 128 := fun k hk => td_un_lt k (fun i hi => tr_dl R (by omega))
  refine loop_0 (fun n k s => wX_room_4 post (nI S) dm cp n s (nI k)) (fun k s => s = nI (td_un D S k)) 5 0 rfl ?_ ?_
  · intro n s hs
    have hs : s = nI (td_un D S 5) := hs
    have hu := hul 5 (by omega)
    rw [hs]
    refine br_t (by decide) ?_
    refine loop_0 (fun n v s => wX_room_37 post (nI (td_un D S 5)) dm cp n s (nI v)) (fun v s => s = nI (td_sm C (td_un D S 5) v)) 7 0 rfl ?_ ?_
    · intro n s hs
      refine br_t (by decide) ?_
      have hs : s = nI (td_room D C S) := hs
      rw [hs]
      exact h
    · intro n v s hv hs ih
      have hs : s = nI (td_sm C (td_un D S 5) v) := hs
      refine br_f (nI_ge (b := 7) hv (by decide)) (tx_in (by omega) (by omega) (fun a => ?_) (fun a => ?_))
      · refine br_f (by decide) ⟨vp_in_nI hv (by decide), ?_⟩
        have e : s + cp (nI v).toNatClampNeg = nI (td_sm C (td_un D S 5) (v + 1)) := by
          rw [tr_c R hv, hs, nI_add, td_sm_t (td_tb1.mpr a)]
        exact nm_r e (nm_r (nI_1 v) (ih _ rfl))
      · refine br_t rfl (nm_r (nI_1 v) (ih s ?_))
        show s = nI (td_sm C (td_un D S 5) (v + 1))
        rw [td_sm_f (fun z => by rw [td_tb1.mp z] at a; exact absurd a (by decide))]
        exact hs
  · intro n k s hk hs ih
    have hs : s = nI (td_un D S k) := hs
    refine br_f (nI_ge (b := 5) hk (by decide)) (tx_in (by omega) (by omega) (fun a => ?_) (fun a => ?_))
    · refine br_f (by decide) ⟨vp_in_nI hk (by decide), ?_⟩
      have e : s ||| dm (nI k).toNatClampNeg = nI (td_un D S (k + 1)) := by
        rw [tr_d R hk, hs, td_nor, td_un_t (td_tb1.mpr a)]
      exact nm_r e (nm_r (nI_1 k) (ih _ rfl))
    · refine br_t rfl (nm_r (nI_1 k) (ih s ?_))
      show s = nI (td_un D S (k + 1))
      rw [td_un_f (fun z => by rw [td_tb1.mp z] at a; exact absurd a (by decide))]
      exact hs
theorem td_room_le {D C : Nat → Nat} {dm cp : Nat → Int32} (R : td_R D C dm cp) (S : Nat) : td_room D C S ≤ 21 := td_sm_le 7 (fun v hv => tr_cl R hv)
theorem tx_lack {post : Int32 → Prop} {D C : Nat → Nat} {dm cp : Nat → Int32} (R : td_R D C dm cp) (h1 : ∀ k, k < 31 → td_room D C (k + 1) < td_sz (k + 1) 7 → (∀ j, j < k → td_sz (j + 1) 7 ≤ td_room D C (j + 1)) → post (nI (k + 1))) (h0 : (∀ j, j < 31 → td_sz (j + 1) 7 ≤ td_room D C (j + 1)) → post (-4)) : wpX_lack post (dm, cp) := by
  show ∃ n2 : Nat, wX_lack_2 post dm cp n2 1
  refine loop_0 (fun n k (_ : Unit) => wX_lack_2 post dm cp n (nI (k + 1))) (fun k _ => ∀ j, j < k → td_sz (j + 1) 7 ≤ td_room D C (j + 1)) 31 () (fun b hb => absurd hb (Nat.not_lt_zero b)) ?_ ?_
  · intro n s hs
    exact br_t (by decide) (h0 hs)
  · intro n k s hk hs ih
    have hr := td_room_le R (k + 1)
    have hz := td_sz_le (k + 1) 7
    refine br_f (nI_nlt (a := 31) (b := k + 1) (by omega) (by decide)) (tx_room R (by omega) (tx_sz (by omega) ?_))
    refine pk_le (td_sz (k + 1) 7) (td_room D C (k + 1)) (fun q => ?_) (fun q => ?_)
    · exact nm_r (nI_1 (k + 1)) (ih () (lt_s hs q))
    · exact h1 k hk q hs
/-- how many of the first n sets are tight -/
def td_tg (D C : Nat → Nat) : Nat → Nat
  | 0 => 0
  | k + 1 => td_tg D C k + if td_room D C (k + 1) = td_sz (k + 1) 7 then 1 else 0
theorem td_tg_s (D C : Nat → Nat) (k : Nat) : td_tg D C (k + 1) = td_tg D C k + if td_room D C (k + 1) = td_sz (k + 1) 7 then 1 else 0 := rfl
theorem tx_tight {post : Int32 → Prop} {D C : Nat → Nat} {dm cp : Nat → Int32} (R : td_R D C dm cp) (h : post (nI (td_tg D C 31))) : wpX_tight post (dm, cp) := by
  show ∃ n4 : Nat, wX_tight_4 post dm cp n4 0 1
  refine loop_0 (fun n k s => wX_tight_4 post dm cp n s (nI (k + 1))) (fun k s => s = nI (td_tg D C k)) 31 0 rfl ?_ ?_
  · intro n s hs
    refine br_t (by decide) ?_
    have hs : s = nI (td_tg D C 31) := hs
    rw [hs]
    exact h
  · intro n k s hk hs ih
    have hs : s = nI (td_tg D C k) := hs
    have hr := td_room_le R (k + 1)
    have hz := td_sz_le (k + 1) 7
    refine br_f (nI_nlt (a := 31) (b := k + 1) (by omega) (by decide)) (tx_room R (by omega) (tx_sz (by omega) ?_))
    refine pk_eq (td_room D C (k + 1)) (td_sz (k + 1) 7) (fun q => ?_) (fun q => ?_)
    · have e : s + 1 = nI (td_tg D C (k + 1)) := by
        rw [hs, nI_1, td_tg_s, if_pos q]
      exact nm_r e (nm_r (nI_1 (k + 1)) (ih _ rfl))
    · refine nm_r (nI_1 (k + 1)) (ih s ?_)
      show s = nI (td_tg D C (k + 1))
      rw [td_tg_s, if_neg q]
      exact hs
theorem tx_sp {post : Int32 → Prop} {D C : Nat → Nat} {dm cp : Nat → Int32} (R : td_R D C dm cp) (h : ∀ m s, m ≤ 5 → td_M D C m → s < 32 → (∀ i, i < 5 → (s.testBit i = true ↔ ∃ c, c < 32768 ∧ td_sz (td_lo c 5) 7 = 5 - m ∧ td_ok D C c 5 = true ∧ td_dg c i = 7)) → post (nI (td_sz s 7))) : wpX_spareable post (dm, cp) := by
  unfold wpX_spareable
  dsimp only
  refine tx_most R (fun m h5 hM => ?_)
  refine nm_r (pk_sub (a := 5) h5) ?_
  refine loop_0 (fun n k s => wX_spareable_11 post (nI (5 - m)) dm cp n s (nI k)) (fun k s => ∃ t, t < 32 ∧ s = nI t ∧ ∀ i, i < 5 → (t.testBit i = true ↔ ∃ c, c < k ∧ td_sz (td_lo c 5) 7 = 5 - m ∧ td_ok D C c 5 = true ∧ td_dg c i = 7)) 32768 0 ⟨0, by omega, rfl, fun i hi => ⟨fun z => by rw [Nat.zero_testBit] at z; exact absurd z (by decide), fun ⟨c, hc, _⟩ => absurd hc (Nat.not_lt_zero c)⟩⟩ ?_ ?_
  · intro n s hs
    obtain ⟨t, ht, hs, hb⟩ := hs
    rw [hs]
    exact br_t (by decide) (tx_sz (by omega) (h m t h5 hM ht hb))
  · intro n k s hk hs ih
    obtain ⟨t, ht, hs, hb⟩ := hs
    have hl := td_lo_lt k
    have hz := td_sz_le (td_lo k 5) 7
    have hkeep : ¬ (td_sz (td_lo k 5) 7 = 5 - m ∧ td_ok D C k 5 = true) → ∀ i, i < 5 → (t.testBit i = true ↔ ∃ c, c < k + 1 ∧ td_sz (td_lo c 5) 7 = 5 - m ∧ td_ok D C c 5 = true ∧ td_dg c i = 7) := by
      intro z i hi
      rw [hb i hi]
      constructor
      · intro ⟨c, hc, y⟩
        exact ⟨c, by omega, y⟩
      · intro ⟨c, hc, y⟩
        by_cases q : c < k
        · exact ⟨c, q, y⟩
        · have e : c = k := by omega
          rw [e] at y
          exact absurd ⟨y.1, y.2.1⟩ z
    refine br_f (nI_ge (b := 32768) hk (by decide)) (tx_lo hk (tx_sz (by omega) ?_))
    refine pk_eq (td_sz (td_lo k 5) 7) (5 - m) (fun q => ?_) (fun q => ?_)
    · refine tx_pf R hk (fun a => ?_) (fun a => ?_)
      · have e : s ||| nI (td_lo k 5) = nI (t ||| td_lo k 5) := by
          rw [hs, td_nor]
        refine br_f (by decide) (nm_r e (nm_r (nI_1 k) (ih _ ⟨t ||| td_lo k 5, Nat.or_lt_two_pow (n := 5) ht hl, rfl, fun i hi => ?_⟩)))
        rw [Nat.testBit_or, Bool.or_eq_true, hb i hi, td_lo_b]
        constructor
        · intro z
          rcases z with ⟨c, hc, y⟩ | z
          · exact ⟨c, by omega, y⟩
          · exact ⟨k, by omega, q, a, z.2⟩
        · intro ⟨c, hc, y⟩
          by_cases u : c < k
          · exact Or.inl ⟨c, u, y⟩
          · have e : c = k := by omega
            rw [e] at y
            exact Or.inr ⟨hi, y.2.2⟩
      · exact br_t rfl (nm_r (nI_1 k) (ih s ⟨t, ht, hs, hkeep (fun z => by rw [a] at z; exact absurd z.2 (by decide))⟩))
    · exact nm_r (nI_1 k) (ih s ⟨t, ht, hs, hkeep (fun z => q z.1)⟩)
theorem tx_ms {post : Int32 → Prop} {D C : Nat → Nat} {dm cp : Nat → Int32} (R : td_R D C dm cp) (h0 : ∀ i, i < 5 → D i = 0 → post (-4)) (h1 : (∀ i, i < 5 → D i ≠ 0) → ∀ m, m ≤ 5 → td_M D C m → post (nI (5 - m))) : wpX_missing post (dm, cp) := by
  show ∃ n2 : Nat, wX_missing_2 post dm cp n2 0
  refine loop_0 (fun n k (_ : Unit) => wX_missing_2 post dm cp n (nI k)) (fun k _ => ∀ j, j < k → D j ≠ 0) 5 () (fun b hb => absurd hb (Nat.not_lt_zero b)) ?_ ?_
  · intro n s hs
    refine br_t (by decide) (tx_most R (fun m h5 hM => ?_))
    show post (nI 5 - nI m)
    rw [pk_sub h5]
    exact h1 hs m h5 hM
  · intro n k s hk hs ih
    have hl := tr_dl R hk
    refine br_f (nI_ge (b := 5) hk (by decide)) ⟨vp_in_nI hk (by decide), ?_⟩
    rw [tr_d R hk]
    refine pk_eq (D k) 0 (fun q => h0 k hk q) (fun q => ?_)
    exact nm_r (nI_1 k) (ih () (lt_s hs q))
