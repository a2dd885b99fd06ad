/-! the methods, both sides -/
section
variable {fi al ev : Int32} {dm' cp' gv us fs su : Nat → Int32} {D C : Nat → Nat}
theorem ty_none {N : Nat} (h : ty_F D C N fi al ev fs su) (hN : N ≤ 32768) (z : ∀ c, c < N → td_fl D C c = false) : fi = nI 0 := by
  rw [h.1, td_ct_0.mpr z]
theorem ty_some {N c : Nat} (h : ty_F D C N fi al ev fs su) (hN : N ≤ 32768) (hc : c < N) (hf : td_fl D C c = true) : ∃ m, fi = nI (m + 1) ∧ m + 1 ≤ 32768 := by
  have hl := td_ct_le (td_fl D C) N
  have hz : td_ct (td_fl D C) N ≠ 0 := by
    intro z
    have := td_ct_0.mp z c hc
    rw [hf] at this
    exact absurd this (by decide)
  refine ⟨td_ct (td_fl D C) N - 1, ?_, by omega⟩
  rw [h.1]
  congr 1
  omega
/-- the search, told by whether there is a filling -/
theorem ty_go2 {post : SY → Prop} (R : td_R D C dm' cp') (h : ∀ (fi al ev : Int32) (gv us fs su : Nat → Int32), ty_F D C 32768 fi al ev fs su → post (fi, al, ev, dm', cp', gv, us, fs, su)) : wpY_goOver post (fi, al, ev, dm', cp', gv, us, fs, su) := ty_go R h
end
theorem td_R_ud {D C : Nat → Nat} {dm cp : Nat → Int32} {i s : Nat} (R : td_R D C dm cp) (hi : i < 5) (hs : s < 128) : td_R (fun j => if j = i then s else D j) C (upd dm (nI i).toNatClampNeg (nI s)) cp := by
  rw [nI_clamp (show i < 2 ^ 31 from by omega)]
  refine ⟨fun j hj => ?_, R.2⟩
  show upd dm i (nI s) j = nI (if j = i then s else D j) ∧ (if j = i then s else D j) < 128
  by_cases q : j = i
  · subst q
    rw [pk_us, if_pos rfl]
    exact ⟨rfl, hs⟩
  · rw [pk_un q, if_neg q]
    exact R.1 j hj
theorem td_R_uc {D C : Nat → Nat} {dm cp : Nat → Int32} {v c : Nat} (R : td_R D C dm cp) (hv : v < 7) (hc : c ≤ 3) : td_R D (fun j => if j = v then c else C j) dm (upd cp (nI v).toNatClampNeg (nI c)) := by
  rw [nI_clamp (show v < 2 ^ 31 from by omega)]
  refine ⟨R.1, fun j hj => ?_⟩
  show upd cp v (nI c) j = nI (if j = v then c else C j) ∧ (if j = v then c else C j) ≤ 3
  by_cases q : j = v
  · subst q
    rw [pk_us, if_pos rfl]
    exact ⟨rfl, hc⟩
  · rw [pk_un q, if_neg q]
    exact R.2 j hj
/-- both hold the same domains, within 0 to 127, and the same capacities, within 0 to 3 -/

def i_Rel (_ : Nat) (u : SX) (v : SY) : Prop := ∃ D C : Nat → Nat, td_R D C u.1 u.2 ∧ td_R D C v.2.2.2.1 v.2.2.2.2.1
theorem td_rel {k : Nat} {dm cp : Nat → Int32} {fi al ev : Int32} {dm' cp' gv us fs su : Nat → Int32} {D C : Nat → Nat} (R : td_R D C dm cp) (R' : td_R D C dm' cp') : i_Rel k (dm, cp) (fi, al, ev, dm', cp', gv, us, fs, su) := ⟨D, C, R, R'⟩
theorem i_up {k : Nat} {u : SX} {v : SY} (h : i_Rel k u v) : i_Rel (k + 4) u v := h
theorem i_vc0 : wpX_init (fun u => wpY_init (fun v => i_Rel 0 u v)) := by
  refine loop_0 (fun n k s => wX_init_21 (fun u => wpY_init (fun v => i_Rel 0 u v)) n (nI k) s (fun _ => 0)) (fun k s => ∀ i, i < k → s i = 127) 5 (fun _ => 0) (fun b hb => absurd hb (Nat.not_lt_zero b)) ?_ ?_
  · intro n dm hdm
    refine br_t (by decide) ?_
    refine loop_0 (fun n k s => wX_init_42 (fun u => wpY_init (fun v => i_Rel 0 u v)) n (nI k) dm s) (fun k s => ∀ i, i < k → s i = 1) 7 (fun _ => 0) (fun b hb => absurd hb (Nat.not_lt_zero b)) ?_ ?_
    · intro n cp hcp
      refine br_t (by decide) ?_
      refine loop_0 (fun n k s => wY_init_50 (fun v => i_Rel 0 (dm, cp) v) 0 0 0 n (nI k) s (fun _ => 0) (fun _ => 0) (fun _ => 0) (fun _ => 0) (fun _ => 0)) (fun k s => ∀ i, i < k → s i = 127) 5 (fun _ => 0) (fun b hb => absurd hb (Nat.not_lt_zero b)) ?_ ?_
      · intro n dm' hdm'
        refine br_t (by decide) ?_
        refine loop_0 (fun n k s => wY_init_71 (fun v => i_Rel 0 (dm, cp) v) 0 0 0 n (nI k) dm' s (fun _ => 0) (fun _ => 0) (fun _ => 0) (fun _ => 0)) (fun k s => ∀ i, i < k → s i = 1) 7 (fun _ => 0) (fun b hb => absurd hb (Nat.not_lt_zero b)) ?_ ?_
        · intro n cp' hcp'
          refine br_t (by decide) ?_
          exact td_rel (D := fun _ => 127) (C := fun _ => 1) ⟨fun i hi => ⟨hdm i hi, (by decide : 127 < 128)⟩, fun v hv => ⟨hcp v hv, (by decide : 1 ≤ 3)⟩⟩ ⟨fun i hi => ⟨hdm' i hi, (by decide : 127 < 128)⟩, fun v hv => ⟨hcp' v hv, (by decide : 1 ≤ 3)⟩⟩
        · intro n k s hk hs ih
          have ek : upd s (nI k).toNatClampNeg 1 = upd s k 1 := by rw [nI_clamp (by omega)]
          refine br_f (nI_ge (b := 7) hk (by decide)) ⟨vp_in_nI hk (by decide), nm_r ek (nm_r (nI_1 k) (ih _ (lt_s (fun i hi => ?_) pk_us)))⟩
          rw [pk_un (by omega)]
          exact hs i hi
      · intro n k s hk hs ih
        have ek : upd s (nI k).toNatClampNeg 127 = upd s k 127 := by rw [nI_clamp (by omega)]
        refine br_f (nI_ge (b := 5) hk (by decide)) ⟨vp_in_nI hk (by decide), nm_r ek (nm_r (nI_1 k) (ih _ (lt_s (fun i hi => ?_) pk_us)))⟩
        rw [pk_un (by omega)]
        exact hs i hi
    · intro n k s hk hs ih
      have ek : upd s (nI k).toNatClampNeg 1 = upd s k 1 := by rw [nI_clamp (by omega)]
      refine br_f (nI_ge (b := 7) hk (by decide)) ⟨vp_in_nI hk (by decide), nm_r ek (nm_r (nI_1 k) (ih _ (lt_s (fun i hi => ?_) pk_us)))⟩
      rw [pk_un (by omega)]
      exact hs i hi
  · intro n k s hk hs ih
    have ek : upd s (nI k).toNatClampNeg 127 = upd s k 127 := by rw [nI_clamp (by omega)]
    refine br_f (nI_ge (b := 5) hk (by decide)) ⟨vp_in_nI hk (by decide), nm_r ek (nm_r (nI_1 k) (ih _ (lt_s (fun i hi => ?_) pk_us)))⟩
    rw [pk_un (by omega)]
    exact hs i hi
theorem i_vc_domain {k : Nat} {u : SX} {v : SY} (I : i_Rel k u v) (hk : k + 4 ≤ 2048) (v1 : Int32) (v2 : Int32) : wpX_domain (fun r u' => wpY_domain (fun r' v' => r' = r ∧ i_Rel (k + 4) u' v') v v1 v2) u v1 v2 := by
  obtain ⟨dm, cp⟩ := u
  obtain ⟨fi, al, ev, dm', cp', gv, us, fs, su⟩ := v
  obtain ⟨D, C, R, R'⟩ := I
  have R : td_R D C dm cp := R
  have R' : td_R D C dm' cp' := R'
  have hbad : ∀ {k' : Nat}, i_Rel k' (dm, cp) (fi, al, ev, dm', cp', gv, us, fs, su) := td_rel R R'
  unfold wpX_domain wpY_domain
  dsimp only
  by_cases hx : v1 < 0 ∨ nI 5 ≤ v1
  · exact tx_pl0 hx (br_t rfl (ty_pl0 hx (br_t rfl ⟨rfl, hbad⟩)))
  · obtain ⟨i, hi, rfl⟩ : ∃ i : Nat, i < 5 ∧ v1 = nI i := by
      rcases pk_ix v1 (n := 5) (by decide) with z | z | z
      · exact absurd (Or.inl z) hx
      · exact absurd (Or.inr z) hx
      · exact z
    refine tx_pl1 hi (br_f (by decide) ?_)
    by_cases hn : v2 < 0
    · exact br_t hn (ty_pl1 hi (br_f (by decide) (br_t hn ⟨rfl, hbad⟩)))
    · by_cases hs : v2 ≤ 127
      · obtain ⟨s, hs1, rfl⟩ := nI_of2 (n := 127) (M := 127) (by decide) hn hs
        refine br_f hn (br_t hs ⟨vp_in_nI hi (by decide), nm_e ⟨vp_in_nI hi (by decide), nm_e ?_⟩⟩)
        refine ty_pl1 hi (br_f (by decide) (br_f hn (br_t hs ⟨vp_in_nI hi (by decide), nm_e ⟨vp_in_nI hi (by decide), nm_e ⟨?_, ?_⟩⟩⟩)))
        · rw [tr_d R hi, tr_d R' hi]
        · exact td_rel (td_R_ud R hi (by omega)) (td_R_ud R' hi (by omega))
      · exact br_f hn (br_f hs (ty_pl1 hi (br_f (by decide) (br_f hn (br_f hs ⟨rfl, hbad⟩)))))
theorem tx_allow {post : Int32 → SX → Prop} {D C : Nat → Nat} {dm cp : Nat → Int32} {i v : Nat} {v3 : Int32} (R : td_R D C dm cp) (hi : i < 5) (hv : v < 7) (h0 : v3 = 0 → post (nI (D i / 2 ^ v % 2)) (upd dm (nI i).toNatClampNeg (nI (D i &&& (2 ^ v ^^^ 127))), cp)) (h1 : ¬ v3 = 0 → post (nI (D i / 2 ^ v % 2)) (upd dm (nI i).toNatClampNeg (nI (D i ||| 2 ^ v)), cp)) : wpX_allow post (dm, cp) (nI i) (nI v) v3 := by
  have hl := tr_dl R hi
  have hin : vp_in (nI i) 5 := vp_in_nI hi (by decide)
  have es : (1 : Int32) <<< (nI v &&& 31) = nI (2 ^ v) := td_sh1 (by omega)
  unfold wpX_allow
  dsimp only
  refine tx_pl1 hi (br_f (by decide) (tx_vl1 hv (br_f (by decide) ⟨hin, ?_⟩)))
  rw [tr_d R hi, es, td_clr hl, td_nor]
  refine tx_in (by omega) (by omega) (fun a => ?_) (fun a => ?_)
  · rw [td_tb1.mpr a] at h0 h1
    exact br_c (fun q => ⟨hin, hin, nm_e (br_f (by decide) (h0 q))⟩) (fun q => ⟨hin, hin, nm_e (br_f (by decide) (h1 q))⟩)
  · have e : D i / 2 ^ v % 2 = 0 := by rw [td_tb, if_neg (by rw [a]; decide)]
    rw [e] at h0 h1
    exact br_c (fun q => ⟨hin, hin, nm_e (br_t rfl (h0 q))⟩) (fun q => ⟨hin, hin, nm_e (br_t rfl (h1 q))⟩)
theorem ty_allow {post : Int32 → SY → Prop} {fi al ev : Int32} {dm' cp' gv us fs su : Nat → Int32} {D C : Nat → Nat} {i v : Nat} {v3 : Int32} (R : td_R D C dm' cp') (hi : i < 5) (hv : v < 7) (h0 : v3 = 0 → post (nI (D i / 2 ^ v % 2)) (fi, al, ev, upd dm' (nI i).toNatClampNeg (nI (D i &&& (2 ^ v ^^^ 127))), cp', gv, us, fs, su)) (h1 : ¬ v3 = 0 → post (nI (D i / 2 ^ v % 2)) (fi, al, ev, upd dm' (nI i).toNatClampNeg (nI (D i ||| 2 ^ v)), cp', gv, us, fs, su)) : wpY_allow post (fi, al, ev, dm', cp', gv, us, fs, su) (nI i) (nI v) v3 := by
  have hl := tr_dl R hi
  have hin : vp_in (nI i) 5 := vp_in_nI hi (by decide)
  have es : (1 : Int32) <<< (nI v &&& 31) = nI (2 ^ v) := td_sh1 (by omega)
  unfold wpY_allow
  dsimp only
  refine ty_pl1 hi (br_f (by decide) (ty_vl1 hv (br_f (by decide) ⟨hin, ?_⟩)))
  rw [tr_d R hi, es, td_clr hl, td_nor, td_bit (by omega) (by omega)]
  exact nm_e (br_c (fun q => ⟨hin, hin, nm_e (h0 q)⟩) (fun q => ⟨hin, hin, nm_e (h1 q)⟩))
theorem i_vc_allow {k : Nat} {u : SX} {v : SY} (I : i_Rel k u v) (hk : k + 4 ≤ 2048) (v1 : Int32) (v2 : Int32) (v3 : Int32) : wpX_allow (fun r u' => wpY_allow (fun r' v' => r' = r ∧ i_Rel (k + 4) u' v') v v1 v2 v3) u v1 v2 v3 := by
  obtain ⟨dm, cp⟩ := u
  obtain ⟨fi, al, ev, dm', cp', gv, us, fs, su⟩ := v
  obtain ⟨D, C, R, R'⟩ := I
  have R : td_R D C dm cp := R
  have R' : td_R D C dm' cp' := R'
  have hbad : ∀ {k' : Nat}, i_Rel k' (dm, cp) (fi, al, ev, dm', cp', gv, us, fs, su) := td_rel R R'
  by_cases hx : v1 < 0 ∨ nI 5 ≤ v1
  · unfold wpX_allow wpY_allow
    dsimp only
    exact tx_pl0 hx (br_t rfl (ty_pl0 hx (br_t rfl ⟨rfl, hbad⟩)))
  · obtain ⟨i, hi, rfl⟩ : ∃ i : Nat, i < 5 ∧ v1 = nI i := by
      rcases pk_ix v1 (n := 5) (by decide) with z | z | z
      · exact absurd (Or.inl z) hx
      · exact absurd (Or.inr z) hx
      · exact z
    by_cases hx2 : v2 < 0 ∨ nI 7 ≤ v2
    · unfold wpX_allow wpY_allow
      dsimp only
      exact tx_pl1 hi (br_f (by decide) (tx_vl0 hx2 (br_t rfl (ty_pl1 hi (br_f (by decide) (ty_vl0 hx2 (br_t rfl ⟨rfl, hbad⟩)))))))
    · obtain ⟨v, hv, rfl⟩ : ∃ v : Nat, v < 7 ∧ v2 = nI v := by
        rcases pk_ix v2 (n := 7) (by decide) with z | z | z
        · exact absurd (Or.inl z) hx2
        · exact absurd (Or.inr z) hx2
        · exact z
      have hl := tr_dl R hi
      have hp7 := td_p7 hv
      have hc0 : D i &&& (2 ^ v ^^^ 127) < 128 := Nat.lt_of_le_of_lt Nat.and_le_left hl
      have hc1 : D i ||| 2 ^ v < 128 := Nat.or_lt_two_pow (n := 7) hl hp7
      refine tx_allow R hi hv (fun q => ?_) (fun q => ?_)
      · exact ty_allow R' hi hv (fun _ => ⟨rfl, td_rel (td_R_ud R hi hc0) (td_R_ud R' hi hc0)⟩) (fun z => absurd q z)
      · exact ty_allow R' hi hv (fun z => absurd z q) (fun _ => ⟨rfl, td_rel (td_R_ud R hi hc1) (td_R_ud R' hi hc1)⟩)
theorem i_vc_capacity {k : Nat} {u : SX} {v : SY} (I : i_Rel k u v) (hk : k + 4 ≤ 2048) (v1 : Int32) (v2 : Int32) : wpX_capacity (fun r u' => wpY_capacity (fun r' v' => r' = r ∧ i_Rel (k + 4) u' v') v v1 v2) u v1 v2 := by
  obtain ⟨dm, cp⟩ := u
  obtain ⟨fi, al, ev, dm', cp', gv, us, fs, su⟩ := v
  obtain ⟨D, C, R, R'⟩ := I
  have R : td_R D C dm cp := R
  have R' : td_R D C dm' cp' := R'
  have hbad : ∀ {k' : Nat}, i_Rel k' (dm, cp) (fi, al, ev, dm', cp', gv, us, fs, su) := td_rel R R'
  unfold wpX_capacity wpY_capacity
  dsimp only
  by_cases hx : v1 < 0 ∨ nI 7 ≤ v1
  · exact tx_vl0 hx (br_t rfl (ty_vl0 hx (br_t rfl ⟨rfl, hbad⟩)))
  · obtain ⟨i, hi, rfl⟩ : ∃ i : Nat, i < 7 ∧ v1 = nI i := by
      rcases pk_ix v1 (n := 7) (by decide) with z | z | z
      · exact absurd (Or.inl z) hx
      · exact absurd (Or.inr z) hx
      · exact z
    refine tx_vl1 hi (br_f (by decide) ?_)
    by_cases hn : v2 < 0
    · exact br_t hn (ty_vl1 hi (br_f (by decide) (br_t hn ⟨rfl, hbad⟩)))
    · by_cases hs : v2 ≤ 3
      · obtain ⟨s, hs1, rfl⟩ := nI_of2 (n := 3) (M := 3) (by decide) hn hs
        refine br_f hn (br_t hs ⟨vp_in_nI hi (by decide), nm_e ⟨vp_in_nI hi (by decide), nm_e ?_⟩⟩)
        refine ty_vl1 hi (br_f (by decide) (br_f hn (br_t hs ⟨vp_in_nI hi (by decide), nm_e ⟨vp_in_nI hi (by decide), nm_e ⟨?_, ?_⟩⟩⟩)))
        · rw [tr_c R hi, tr_c R' hi]
        · exact td_rel (td_R_uc R hi hs1) (td_R_uc R' hi hs1)
      · exact br_f hn (br_f hs (ty_vl1 hi (br_f (by decide) (br_f hn (br_f hs ⟨rfl, hbad⟩)))))
theorem i_vc_fillable {k : Nat} {u : SX} {v : SY} (I : i_Rel k u v) (hk : k + 4 ≤ 2048) : wpX_fillable (fun r => wpY_fillable (fun r' v' => r' = r ∧ i_Rel (k + 4) u v') v) u := by
  obtain ⟨dm, cp⟩ := u
  obtain ⟨fi, al, ev, dm', cp', gv, us, fs, su⟩ := v
  obtain ⟨D, C, R, R'⟩ := I
  have R : td_R D C dm cp := R
  have R' : td_R D C dm' cp' := R'
  unfold wpX_fillable wpY_fillable
  dsimp only
  refine tx_ff R (fun c hc hf _ => br_f (td_m4 (by omega)) (ty_go R' (fun fi al ev gv us fs su hF => ?_))) (fun z => br_t rfl (ty_go R' (fun fi al ev gv us fs su hF => ?_)))
  · obtain ⟨m, em, hm⟩ := ty_some hF (Nat.le_refl _) hc hf
    refine br_f ?_ ⟨rfl, td_rel R R'⟩
    rw [em]
    exact nI_nle (by omega) (by omega)
  · refine br_t ?_ ⟨rfl, td_rel R R'⟩
    rw [ty_none hF (Nat.le_refl _) z]
    exact (by decide : nI 0 ≤ 0)
theorem i_vc_most {k : Nat} {u : SX} {v : SY} (I : i_Rel k u v) (hk : k + 4 ≤ 2048) : wpX_most (fun r => wpY_most (fun r' => r' = r ∧ i_Rel (k + 4) u v) v) u := by
  obtain ⟨dm, cp⟩ := u
  obtain ⟨fi, al, ev, dm', cp', gv, us, fs, su⟩ := v
  obtain ⟨D, C, R, R'⟩ := I
  have R : td_R D C dm cp := R
  have R' : td_R D C dm' cp' := R'
  refine tx_most R (fun m h5 hM => ?_)
  unfold wpY_most
  dsimp only
  refine ty_mo (T := 31) R' (by decide) (fun w hw hW => ⟨?_, td_rel R R'⟩)
  have e := td_MW hM hW
  rw [td_sz31]
  congr 1
  omega
theorem i_vc_support {k : Nat} {u : SX} {v : SY} (I : i_Rel k u v) (hk : k + 4 ≤ 2048) (v1 : Int32) : wpX_support (fun r => wpY_support (fun r' v' => r' = r ∧ i_Rel (k + 4) u v') v v1) u v1 := by
  obtain ⟨dm, cp⟩ := u
  obtain ⟨fi, al, ev, dm', cp', gv, us, fs, su⟩ := v
  obtain ⟨D, C, R, R'⟩ := I
  have R : td_R D C dm cp := R
  have R' : td_R D C dm' cp' := R'
  by_cases hx : v1 < 0 ∨ nI 5 ≤ v1
  · unfold wpX_support wpY_support
    dsimp only
    exact tx_pl0 hx (br_t rfl (ty_pl0 hx (br_t rfl ⟨rfl, td_rel R R'⟩)))
  · obtain ⟨i, hi, rfl⟩ : ∃ i : Nat, i < 5 ∧ v1 = nI i := by
      rcases pk_ix v1 (n := 5) (by decide) with z | z | z
      · exact absurd (Or.inl z) hx
      · exact absurd (Or.inr z) hx
      · exact z
    refine tx_su R hi ?_
    unfold wpY_support
    dsimp only
    refine ty_pl1 hi (br_f (by decide) (ty_go R' (fun fi al ev gv us fs su hF => ⟨vp_in_nI hi (by decide), ?_, td_rel R R'⟩)))
    rw [nI_clamp (by omega)]
    exact hF.2.2.2.1 i hi
theorem ty_prune {post : Int32 → SY → Prop} {fi al ev : Int32} {dm' cp' gv us fs su : Nat → Int32} {D C : Nat → Nat} (R : td_R D C dm' cp') (hsu : ∀ i, i < 5 → su i = nI (td_su D C i)) (h : ∀ d, td_R (td_Dk D C 5) C d cp' → post (nI (td_gn D C 5)) (fi, al, ev, d, cp', gv, us, fs, su)) : ∃ n18 : Nat, wY_prune_18 post fi al ev n18 0 0 dm' cp' gv us fs su := by
  refine loop_0 (fun n k (s : Int32 × (Nat → Int32)) => wY_prune_18 post fi al ev n s.1 (nI k) s.2 cp' gv us fs su) (fun k s => s.1 = nI (td_gn D C k) ∧ td_R (td_Dk D C k) C s.2 cp') 5 (0, dm') ⟨rfl, td_Dk_0 R⟩ ?_ ?_
  · intro n s hs
    obtain ⟨g, d⟩ := s
    obtain ⟨hg, hd⟩ := hs
    have hg : g = nI (td_gn D C 5) := hg
    refine br_t (by decide) ?_
    show post g (fi, al, ev, d, cp', gv, us, fs, su)
    rw [hg]
    exact h d hd
  · intro n k s hk hs ih
    obtain ⟨g, d⟩ := s
    obtain ⟨hg, hd⟩ := hs
    have hg : g = nI (td_gn D C k) := hg
    have hd : td_R (td_Dk D C k) C d cp' := hd
    have hDk : td_Dk D C k k = D k := if_neg (Nat.lt_irrefl k)
    have hl := tr_dl hd hk
    rw [hDk] at hl
    have hi : vp_in (nI k) 5 := vp_in_nI hk (by decide)
    have es : su (nI k).toNatClampNeg = nI (td_su D C k) := by
      rw [nI_clamp (by omega)]
      exact hsu k hk
    refine br_f (nI_ge (b := 5) hk (by decide)) ⟨hi, ?_⟩
    show wpY_bits _ (fi, al, ev, d, cp', gv, us, fs, su) (d (nI k).toNatClampNeg)
    rw [tr_d hd hk, hDk]
    refine ty_bits hl ⟨hi, ?_⟩
    rw [es]
    refine ty_bits (td_su_lt hk) ?_
    have hz := td_sz_cl (d := D k) (s := td_su D C k) (fun i z => td_su_sub hk z) 7 (by omega)
    have e : (g + nI (td_sz (D k) 7)) - nI (td_sz (td_su D C k) 7) = nI (td_gn D C (k + 1)) := by
      rw [hg, nI_add, pk_sub (by omega)]
      congr 1
      show _ = td_gn D C k + td_sz (D k &&& (td_su D C k ^^^ 127)) 7
      omega
    exact nm_r e ⟨hi, hi, nm_e (nm_r (nI_1 k) (ih (_, _) ⟨rfl, td_Dk_s hk hd⟩))⟩
theorem i_vc_prune {k : Nat} {u : SX} {v : SY} (I : i_Rel k u v) (hk : k + 4 ≤ 2048) : wpX_prune (fun r u' => wpY_prune (fun r' v' => r' = r ∧ i_Rel (k + 4) u' v') v) u := by
  obtain ⟨dm, cp⟩ := u
  obtain ⟨fi, al, ev, dm', cp', gv, us, fs, su⟩ := v
  obtain ⟨D, C, R, R'⟩ := I
  have R : td_R D C dm cp := R
  have R' : td_R D C dm' cp' := R'
  refine tx_prune R (fun z => ?_) (fun c hc hf d hd => ?_)
  · unfold wpY_prune
    dsimp only
    refine ty_go R' (fun fi al ev gv us fs su hF => br_t ?_ ⟨rfl, td_rel R R'⟩)
    rw [ty_none hF (Nat.le_refl _) z]
    rfl
  · unfold wpY_prune
    dsimp only
    refine ty_go R' (fun fi al ev gv us fs su hF => br_f ?_ ?_)
    · obtain ⟨m, em, hm⟩ := ty_some hF (Nat.le_refl _) hc hf
      rw [em]
      exact nI_ne0 (by omega) (by omega)
    · exact ty_prune R' (fun i hi => hF.2.2.2.1 i hi) (fun d' hd' => ⟨rfl, td_rel hd hd'⟩)
theorem i_vc_first {k : Nat} {u : SX} {v : SY} (I : i_Rel k u v) (hk : k + 4 ≤ 2048) (v1 : Int32) : wpX_first (fun r => wpY_first (fun r' v' => r' = r ∧ i_Rel (k + 4) u v') v v1) u v1 := by
  obtain ⟨dm, cp⟩ := u
  obtain ⟨fi, al, ev, dm', cp', gv, us, fs, su⟩ := v
  obtain ⟨D, C, R, R'⟩ := I
  have R : td_R D C dm cp := R
  have R' : td_R D C dm' cp' := R'
  unfold wpX_first wpY_first
  dsimp only
  by_cases hx : v1 < 0 ∨ nI 5 ≤ v1
  · exact tx_pl0 hx (br_t rfl (ty_pl0 hx (br_t rfl ⟨rfl, td_rel R R'⟩)))
  · obtain ⟨i, hi, rfl⟩ : ∃ i : Nat, i < 5 ∧ v1 = nI i := by
      rcases pk_ix v1 (n := 5) (by decide) with z | z | z
      · exact absurd (Or.inl z) hx
      · exact absurd (Or.inr z) hx
      · exact z
    refine tx_pl1 hi (br_f (by decide) (tx_ff R (fun c hc hf hl => br_f (td_m4 (by omega)) (tx_va hc hi ?_)) (fun z => br_t rfl ?_)))
    · refine ty_pl1 hi (br_f (by decide) (ty_go R' (fun fi al ev gv us fs su hF => br_f ?_ ⟨vp_in_nI hi (by decide), ?_, td_rel R R'⟩)))
      · obtain ⟨m, em, hm⟩ := ty_some hF (Nat.le_refl _) hc hf
        rw [em]
        exact nI_ne0 (by omega) (by omega)
      · rw [nI_clamp (by omega)]
        exact hF.2.2.2.2 c hc hf hl i hi
    · refine ty_pl1 hi (br_f (by decide) (ty_go R' (fun fi al ev gv us fs su hF => br_t ?_ ⟨rfl, td_rel R R'⟩)))
      rw [ty_none hF (Nat.le_refl _) z]
      rfl
theorem i_vc_count {k : Nat} {u : SX} {v : SY} (I : i_Rel k u v) (hk : k + 4 ≤ 2048) : wpX_count (fun r => wpY_count (fun r' v' => r' = r ∧ i_Rel (k + 4) u v') v) u := by
  obtain ⟨dm, cp⟩ := u
  obtain ⟨fi, al, ev, dm', cp', gv, us, fs, su⟩ := v
  obtain ⟨D, C, R, R'⟩ := I
  have R : td_R D C dm cp := R
  have R' : td_R D C dm' cp' := R'
  refine tx_count R ?_
  unfold wpY_count
  dsimp only
  exact ty_go R' (fun fi al ev gv us fs su hF => ⟨hF.1, td_rel R R'⟩)
theorem i_vc_exhausted {k : Nat} {u : SX} {v : SY} (I : i_Rel k u v) (hk : k + 4 ≤ 2048) : wpX_exhausted (fun r => wpY_exhausted (fun r' v' => r' = r ∧ i_Rel (k + 4) u v') v) u := by
  obtain ⟨dm, cp⟩ := u
  obtain ⟨fi, al, ev, dm', cp', gv, us, fs, su⟩ := v
  obtain ⟨D, C, R, R'⟩ := I
  have R : td_R D C dm cp := R
  have R' : td_R D C dm' cp' := R'
  unfold wpY_exhausted
  dsimp only
  refine tx_ex R (fun z => ?_) (fun c hc hf => ?_)
  · refine ty_go R' (fun fi al ev gv us fs su hF => br_t ?_ ⟨rfl, td_rel R R'⟩)
    rw [ty_none hF (Nat.le_refl _) z]
    rfl
  · refine ty_go R' (fun fi al ev gv us fs su hF => br_f ?_ ⟨hF.2.1, td_rel R R'⟩)
    obtain ⟨m, em, hm⟩ := ty_some hF (Nat.le_refl _) hc hf
    rw [em]
    exact nI_ne0 (by omega) (by omega)
theorem i_vc_unused {k : Nat} {u : SX} {v : SY} (I : i_Rel k u v) (hk : k + 4 ≤ 2048) : wpX_unused (fun r => wpY_unused (fun r' v' => r' = r ∧ i_Rel (k + 4) u v') v) u := by
  obtain ⟨dm, cp⟩ := u
  obtain ⟨fi, al, ev, dm', cp', gv, us, fs, su⟩ := v
  obtain ⟨D, C, R, R'⟩ := I
  have R : td_R D C dm cp := R
  have R' : td_R D C dm' cp' := R'
  unfold wpY_unused
  dsimp only
  refine tx_un R (fun z => ?_) (fun c hc hf => ?_)
  · refine ty_go R' (fun fi al ev gv us fs su hF => br_t ?_ ⟨rfl, td_rel R R'⟩)
    rw [ty_none hF (Nat.le_refl _) z]
    rfl
  · refine ty_go R' (fun fi al ev gv us fs su hF => br_f ?_ ⟨?_, td_rel R R'⟩)
    · obtain ⟨m, em, hm⟩ := ty_some hF (Nat.le_refl _) hc hf
      rw [em]
      exact nI_ne0 (by omega) (by omega)
    · have e := hF.2.2.1
      rw [td_ever] at e
      rw [e]
theorem ty_lack {post : Int32 → Prop} {fi al ev : Int32} {dm' cp' gv us fs su : Nat → Int32} {D C : Nat → Nat} (R : td_R D C dm' cp') (h1 : ∀ k, k < 31 → td_room D C (k + 1) < td_sz (k + 1) 7 → (∀ j, j < k → td_sz (j + 1) 7 ≤ td_room D C (j + 1)) → post (nI (k + 1))) (h0 : (∀ j, j < 31 → td_sz (j + 1) 7 ≤ td_room D C (j + 1)) → post (-4)) : wpY_lack post (fi, al, ev, dm', cp', gv, us, fs, su) := by
  show ∃ n2 : Nat, wY_lack_2 post fi al ev dm' cp' gv us fs su n2 1
  refine loop_0 (fun n k (_ : Unit) => wY_lack_2 post fi al ev dm' cp' gv us fs su n (nI (k + 1))) (fun k _ => ∀ j, j < k → td_sz (j + 1) 7 ≤ td_room D C (j + 1)) 31 () (fun b hb => absurd hb (Nat.not_lt_zero b)) ?_ ?_
  · intro n s hs
    exact br_t (by decide) (h0 hs)
  · intro n k s hk hs ih
    have hr := td_room_le R (k + 1)
    have hz := td_sz_le (k + 1) 7
    refine br_f (nI_ge (b := 32) (by omega) (by decide)) (ty_room R (by omega) (ty_bits (by omega) ?_))
    refine pk_le (td_sz (k + 1) 7) (td_room D C (k + 1)) (fun q => ?_) (fun q => ?_)
    · exact nm_r (nI_1 (k + 1)) (ih () (lt_s hs q))
    · exact h1 k hk q hs
theorem ty_tight {post : Int32 → Prop} {fi al ev : Int32} {dm' cp' gv us fs su : Nat → Int32} {D C : Nat → Nat} (R : td_R D C dm' cp') (h : post (nI (td_tg D C 31))) : wpY_tight post (fi, al, ev, dm', cp', gv, us, fs, su) := by
  show ∃ n4 : Nat, wY_tight_4 post fi al ev dm' cp' gv us fs su n4 0 1
  refine loop_0 (fun n k s => wY_tight_4 post fi al ev dm' cp' gv us fs su n s (nI (k + 1))) (fun k s => s = nI (td_tg D C k)) 31 0 rfl ?_ ?_
  · intro n s hs
    refine br_t (by decide) ?_
    have hs : s = nI (td_tg D C 31) := hs
    rw [hs]
    exact h
  · intro n k s hk hs ih
    have hs : s = nI (td_tg D C k) := hs
    have hr := td_room_le R (k + 1)
    have hz := td_sz_le (k + 1) 7
    refine br_f (nI_ge (b := 32) (by omega) (by decide)) (ty_room R (by omega) (ty_bits (by omega) ?_))
    refine pk_eq (td_room D C (k + 1)) (td_sz (k + 1) 7) (fun q => ?_) (fun q => ?_)
    · have e : s + 1 = nI (td_tg D C (k + 1)) := by
        rw [hs, nI_1, td_tg_s, if_pos q]
      exact nm_r e (nm_r (nI_1 (k + 1)) (ih _ rfl))
    · refine nm_r (nI_1 (k + 1)) (ih s ?_)
      show s = nI (td_tg D C (k + 1))
      rw [td_tg_s, if_neg q]
      exact hs
theorem i_vc_lack {k : Nat} {u : SX} {v : SY} (I : i_Rel k u v) (hk : k + 4 ≤ 2048) : wpX_lack (fun r => wpY_lack (fun r' => r' = r ∧ i_Rel (k + 4) u v) v) u := by
  obtain ⟨dm, cp⟩ := u
  obtain ⟨fi, al, ev, dm', cp', gv, us, fs, su⟩ := v
  obtain ⟨D, C, R, R'⟩ := I
  have R : td_R D C dm cp := R
  have R' : td_R D C dm' cp' := R'
  refine tx_lack R (fun j hj q1 q2 => ?_) (fun z => ?_)
  · refine ty_lack R' (fun j' hj' q1' q2' => ⟨?_, td_rel R R'⟩) (fun z => ?_)
    · by_cases u : j' < j
      · have := q2 j' u
        omega
      · by_cases u2 : j < j'
        · have := q2' j u2
          omega
        · have e : j' = j := by omega
          rw [e]
    · have := z j hj
      omega
  · refine ty_lack R' (fun j' hj' q1' q2' => ?_) (fun _ => ⟨rfl, td_rel R R'⟩)
    have := z j' hj'
    omega
theorem i_vc_tight {k : Nat} {u : SX} {v : SY} (I : i_Rel k u v) (hk : k + 4 ≤ 2048) : wpX_tight (fun r => wpY_tight (fun r' => r' = r ∧ i_Rel (k + 4) u v) v) u := by
  obtain ⟨dm, cp⟩ := u
  obtain ⟨fi, al, ev, dm', cp', gv, us, fs, su⟩ := v
  obtain ⟨D, C, R, R'⟩ := I
  have R : td_R D C dm cp := R
  have R' : td_R D C dm' cp' := R'
  exact tx_tight R (ty_tight R' ⟨rfl, td_rel R R'⟩)
theorem td_31i : ∀ i, i < 5 → (31 : Int32) &&& (((1 : Int32) <<< (nI i &&& 31)) ^^^ (-1)) = nI (31 ^^^ 2 ^ i) := by decide +kernel
/-- how many of the first n places can be spared -/
theorem ty_sp {post : Int32 → Prop} {fi al ev : Int32} {dm' cp' gv us fs su : Nat → Int32} {D C : Nat → Nat} {m s : Nat} (R : td_R D C dm' cp') (hM : td_M D C m) (hs : ∀ i, i < 5 → (s.testBit i = true ↔ ∃ c, c < 32768 ∧ td_sz (td_lo c 5) 7 = 5 - m ∧ td_ok D C c 5 = true ∧ td_dg c i = 7)) (h : post (nI (td_sz s 5))) : wpY_spareable post (fi, al, ev, dm', cp', gv, us, fs, su) := by
  unfold wpY_spareable
  dsimp only
  refine ty_mo (T := 31) R (by decide) (fun w hw hW => ?_)
  have hmw := td_MW hM hW
  rw [td_sz31]
  rw [td_sz31] at hw
  refine loop_0 (fun n k x => wY_spareable_11 post (nI (5 - w)) fi al ev dm' cp' gv us fs su n x (nI k)) (fun k x => x = nI (td_sz s k)) 5 0 rfl ?_ ?_
  · intro n x hx
    refine br_t (by decide) ?_
    have hx : x = nI (td_sz s 5) := hx
    rw [hx]
    exact h
  · intro n k x hk hx ih
    have hx : x = nI (td_sz s k) := hx
    obtain ⟨t1, t2, t3⟩ := td_T4 k hk
    refine br_f (nI_ge (b := 5) hk (by decide)) ?_
    rw [td_31i k hk]
    refine ty_mo R t1 (fun wi hwi hWi => ?_)
    rw [t2]
    rw [t2] at hwi
    have hsp := td_spare hk hM hW hWi
    refine pk_eq (4 - wi) (5 - w) (fun q => ?_) (fun q => ?_)
    · have hb : s.testBit k = true := (hs k hk).mpr (hsp.mpr (by omega))
      have e : x + 1 = nI (td_sz s (k + 1)) := by
        rw [hx, nI_1, td_sz_s, if_pos hb]
      exact nm_r e (nm_r (nI_1 k) (ih _ rfl))
    · have hb : ¬ s.testBit k = true := by
        intro z
        have := hsp.mp ((hs k hk).mp z)
        omega
      refine nm_r (nI_1 k) (ih x ?_)
      show x = nI (td_sz s (k + 1))
      rw [td_sz_s, if_neg hb]
      exact hx
theorem i_vc_spareable {k : Nat} {u : SX} {v : SY} (I : i_Rel k u v) (hk : k + 4 ≤ 2048) : wpX_spareable (fun r => wpY_spareable (fun r' => r' = r ∧ i_Rel (k + 4) u v) v) u := by
  obtain ⟨dm, cp⟩ := u
  obtain ⟨fi, al, ev, dm', cp', gv, us, fs, su⟩ := v
  obtain ⟨D, C, R, R'⟩ := I
  have R : td_R D C dm cp := R
  have R' : td_R D C dm' cp' := R'
  refine tx_sp R (fun m s h5 hM hs hb => ?_)
  refine ty_sp R' hM hb ⟨?_, td_rel R R'⟩
  rw [td_sz5 hs]
theorem i_vc_missing {k : Nat} {u : SX} {v : SY} (I : i_Rel k u v) (hk : k + 4 ≤ 2048) : wpX_missing (fun r => wpY_missing (fun r' => r' = r ∧ i_Rel (k + 4) u v) v) u := by
  obtain ⟨dm, cp⟩ := u
  obtain ⟨fi, al, ev, dm', cp', gv, us, fs, su⟩ := v
  obtain ⟨D, C, R, R'⟩ := I
  have R : td_R D C dm cp := R
  have R' : td_R D C dm' cp' := R'
  have hY : ∀ post : Int32 → Prop, (∀ i, i < 5 → D i = 0 → post (-4)) → ((∀ i, i < 5 → D i ≠ 0) → ∀ w, w ≤ 5 → td_W D C 31 w → post (nI w)) → wpY_missing post (fi, al, ev, dm', cp', gv, us, fs, su) := by
    intro post h0 h1
    show ∃ n2 : Nat, wY_missing_2 post fi al ev dm' cp' gv us fs su n2 0
    refine loop_0 (fun n k (_ : Unit) => wY_missing_2 post fi al ev dm' cp' gv us fs su n (nI k)) (fun k _ => ∀ j, j < k → D j ≠ 0) 5 () (fun b hb => absurd hb (Nat.not_lt_zero b)) ?_ ?_
    · intro n s hs
      refine br_t (by decide) (ty_mo (T := 31) R' (by decide) (fun w hw hW => ?_))
      rw [td_sz31] at hw ⊢
      show post (nI 5 - nI (5 - w))
      rw [pk_sub (by omega), show 5 - (5 - w) = w from by omega]
      exact h1 hs w hw hW
    · intro n k s hk hs ih
      have hl := tr_dl R' hk
      refine br_f (nI_ge (b := 5) hk (by decide)) ⟨vp_in_nI hk (by decide), ?_⟩
      rw [tr_d R' hk]
      refine pk_eq (D k) 0 (fun q => h0 k hk q) (fun q => ?_)
      exact nm_r (nI_1 k) (ih () (lt_s hs q))
  refine tx_ms R (fun i hi z => ?_) (fun z m h5 hM => ?_)
  · exact hY _ (fun _ _ _ => ⟨rfl, td_rel R R'⟩) (fun y => absurd z (y i hi))
  · refine hY _ (fun i hi y => absurd y (z i hi)) (fun _ w hw hW => ⟨?_, td_rel R R'⟩)
    have e := td_MW hM hW
    congr 1
    omega
