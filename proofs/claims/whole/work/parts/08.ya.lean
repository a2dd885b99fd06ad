/-! the reference against the picture: small walks -/
theorem td_lk {b r w : Nat} (hb : b < 100) (hr : r < 100) (hw : w < 100) : nI b - nI r ≤ nI w ↔ b ≤ r + w := by
  rw [Int32.le_iff_toInt_le, pk_sub_toInt (by omega) (by omega), nI_toInt (by omega)]
  omega
theorem td_t8 : ∀ S, S < 32 → ∀ T, T < 32 → (S &&& (T ^^^ 127) = 0 ↔ S &&& T = S) := by decide +kernel
section
variable {fi al ev : Int32} {dm cp gv us fs su : Nat → Int32} {D C : Nat → Nat} {post : Int32 → Prop}
theorem ty_pl1 {i : Nat} (hi : i < 5) (h : post 1) : wpY_isPlace post (fi, al, ev, dm, cp, gv, us, fs, su) (nI i) := br_f (nI_pos (by omega)) (br_f (nI_nlt (a := 4) (b := i) (by omega) (by decide)) h)
theorem ty_pl0 {x : Int32} (hx : x < 0 ∨ nI 5 ≤ x) (h : post 0) : wpY_isPlace post (fi, al, ev, dm, cp, gv, us, fs, su) x := by
  by_cases q : x < 0
  · exact br_t q h
  · rcases hx with z | z
    · exact absurd z q
    · exact br_f q (br_t (Int32.lt_of_lt_of_le (by decide) z) h)
theorem ty_vl1 {i : Nat} (hi : i < 7) (h : post 1) : wpY_isValue post (fi, al, ev, dm, cp, gv, us, fs, su) (nI i) := br_f (nI_pos (by omega)) (br_f (nI_nlt (a := 6) (b := i) (by omega) (by decide)) h)
theorem ty_vl0 {x : Int32} (hx : x < 0 ∨ nI 7 ≤ x) (h : post 0) : wpY_isValue post (fi, al, ev, dm, cp, gv, us, fs, su) x := by
  by_cases q : x < 0
  · exact br_t q h
  · rcases hx with z | z
    · exact absurd z q
    · exact br_f q (br_t (Int32.lt_of_lt_of_le (by decide) z) h)
theorem ty_bits {s : Nat} (hs : s < 128) (h : post (nI (td_sz s 7))) : wpY_bits post (fi, al, ev, dm, cp, gv, us, fs, su) (nI s) := by
  show ∃ n4 : Nat, wY_bits_4 post (nI s) fi al ev dm cp gv us fs su n4 0 0
  refine loop_0 (fun n i x => wY_bits_4 post (nI s) fi al ev dm cp gv us fs su n x (nI i)) (fun i x => x = nI (td_sz s i)) 8 0 rfl ?_ ?_
  · intro n x hx
    refine br_t (by decide) ?_
    have hx : x = nI (td_sz s 8) := hx
    rw [hx, td_sz8 hs]
    exact h
  · intro n i x hi hx ih
    have hx : x = nI (td_sz s i) := hx
    have e : x + ((nI s >>> (nI i &&& 31)) &&& 1) = nI (td_sz s (i + 1)) := by
      rw [hx, td_bit (by omega) (by omega), nI_add]
      rfl
    exact br_f (nI_ge (b := 8) hi (by decide)) (nm_r e (nm_r (nI_1 i) (ih _ rfl)))
theorem ty_room {S : Nat} (R : td_R D C dm cp) (hS : S < 32) (h : post (nI (td_room D C S))) : wpY_room post (fi, al, ev, dm, cp, gv, us, fs, su) (nI S) := by
  show ∃ n4 : Nat, wY_room_4 post (nI S) fi al ev dm cp gv us fs su n4 0 0
  have hul : ∀ k, k ≤ 5 → td_un D S k < 128 := fun k hk => td_un_lt k (fun i hi => tr_dl R (by omega))
  refine loop_0 (fun n k s => wY_room_4 post (nI S) fi al ev dm cp gv us fs su n s (nI k)) (fun k s => s = nI (td_un D S k)) 5 0 rfl ?_ ?_
  · intro n s hs
    have hs : s = nI (td_un D S 5) := hs
    have hu := hul 5 (by omega)
    rw [hs]
    refine br_t (by decide) ?_
    refine loop_0 (fun n v s => wY_room_42 post (nI (td_un D S 5)) fi al ev dm cp gv us fs su n s (nI v)) (fun v s => s = nI (td_sm C (td_un D S 5) v)) 7 0 rfl ?_ ?_
    · intro n s hs
      refine br_t (by decide) ?_
      have hs : s = nI (td_room D C S) := hs
      rw [hs]
      exact h
    · intro n v s hv hs ih
      have hs : s = nI (td_sm C (td_un D S 5) v) := hs
      refine br_f (nI_ge (b := 7) hv (by decide)) (pk_eq (td_un D S 5 / 2 ^ v % 2) 1 (fun a => ?_) (fun a => ?_) (td_bit (by omega) (by omega)))
      · refine ⟨vp_in_nI hv (by decide), ?_⟩
        have e : s + cp (nI v).toNatClampNeg = nI (td_sm C (td_un D S 5) (v + 1)) := by
          rw [tr_c R hv, hs, nI_add, td_sm_t a]
        exact nm_r e (nm_r (nI_1 v) (ih _ rfl))
      · refine nm_r (nI_1 v) (ih s ?_)
        show s = nI (td_sm C (td_un D S 5) (v + 1))
        rw [td_sm_f a]
        exact hs
  · intro n k s hk hs ih
    have hs : s = nI (td_un D S k) := hs
    refine br_f (nI_ge (b := 5) hk (by decide)) (pk_eq (S / 2 ^ k % 2) 1 (fun a => ?_) (fun a => ?_) (td_bit (by omega) (by omega)))
    · refine ⟨vp_in_nI hk (by decide), ?_⟩
      have e : s ||| dm (nI k).toNatClampNeg = nI (td_un D S (k + 1)) := by
        rw [tr_d R hk, hs, td_nor, td_un_t a]
      exact nm_r e (nm_r (nI_1 k) (ih _ rfl))
    · refine nm_r (nI_1 k) (ih s ?_)
      show s = nI (td_un D S (k + 1))
      rw [td_un_f a]
      exact hs
theorem ty_mo {T : Nat} (R : td_R D C dm cp) (hT : T < 32) (h : ∀ w, w ≤ td_sz T 7 → td_W D C T w → post (nI (td_sz T 7 - w))) : wpY_mostOf post (fi, al, ev, dm, cp, gv, us, fs, su) (nI T) := by
  show ∃ n4 : Nat, wY_mostOf_4 post (nI T) fi al ev dm cp gv us fs su n4 0 1
  refine loop_0 (fun n k s => wY_mostOf_4 post (nI T) fi al ev dm cp gv us fs su n s (nI (k + 1))) (fun k s => ∃ w, w ≤ 7 ∧ s = nI w ∧ (∀ S, S < k + 1 → S ≠ 0 → S &&& T = S → td_sz S 7 ≤ td_room D C S + w) ∧ (w = 0 ∨ ∃ S, S < k + 1 ∧ S ≠ 0 ∧ S &&& T = S ∧ td_sz S 7 = td_room D C S + w)) 31 0 ⟨0, by omega, rfl, fun S hS h0 => absurd (Nat.lt_one_iff.mp hS) h0, Or.inl rfl⟩ ?_ ?_
  · intro n s hs
    obtain ⟨w, h7, hs, ha, hb⟩ := hs
    have hW : td_W D C T w := ⟨ha, hb⟩
    have hw := td_W_le hT hW
    rw [hs]
    refine br_t (by decide) (ty_bits (by omega) ?_)
    rw [pk_sub hw]
    exact h w hw hW
  · intro n k s hk hs ih
    obtain ⟨w, h7, hs, ha, hb⟩ := hs
    have hr := td_room_le R (k + 1)
    have hz := td_sz_le (k + 1) 7
    have hkb : ∀ w', (w' = w ∨ w < w') → ((k + 1) &&& T = k + 1 → td_sz (k + 1) 7 ≤ td_room D C (k + 1) + w') → ∀ S, S < k + 1 + 1 → S ≠ 0 → S &&& T = S → td_sz S 7 ≤ td_room D C S + w' := by
      intro w' hw' hn S hS h0 hST
      by_cases q : S < k + 1
      · have := ha S q h0 hST
        omega
      · have e : S = k + 1 := by omega
        rw [e] at hST
        rw [e]
        exact hn hST
    have hko : w = 0 ∨ ∃ S, S < k + 1 + 1 ∧ S ≠ 0 ∧ S &&& T = S ∧ td_sz S 7 = td_room D C S + w := by
      rcases hb with z | ⟨S, hS, z⟩
      · exact Or.inl z
      · exact Or.inr ⟨S, by omega, z⟩
    refine br_f (nI_ge (b := 32) (by omega) (by decide)) (ty_bits (by omega) (ty_room R (by omega) (nm_e ?_)))
    rw [td_clr (a := k + 1) (by omega), hs]
    have hal : (k + 1) &&& (T ^^^ 127) ≤ k + 1 := Nat.and_le_left
    refine pk_eq ((k + 1) &&& (T ^^^ 127)) 0 (fun z => ?_) (fun z => ?_)
    · have z := (td_t8 (k + 1) (by omega) T hT).mp z
      by_cases q : td_sz (k + 1) 7 ≤ td_room D C (k + 1) + w
      · exact br_t ((td_lk (by omega) (by omega) (by omega)).mpr q) (nm_r (nI_1 (k + 1)) (ih _ ⟨w, h7, rfl, hkb w (Or.inl rfl) (fun _ => q), hko⟩))
      · refine br_f (fun y => q ((td_lk (by omega) (by omega) (by omega)).mp y)) (nm_r (nI_1 (k + 1)) (ih _ ⟨td_sz (k + 1) 7 - td_room D C (k + 1), by omega, pk_sub (by omega), hkb _ (Or.inr (by omega)) (fun _ => by omega), Or.inr ⟨k + 1, by omega, by omega, z, by omega⟩⟩))
    · refine nm_r (nI_1 (k + 1)) (ih _ ⟨w, h7, rfl, hkb w (Or.inl rfl) (fun y => absurd ((td_t8 (k + 1) (by omega) T hT).mpr y) z), hko⟩)
theorem ty_nv {U : Nat → Nat} {p d : Nat} (R : td_R D C dm cp) (hp : p < 5) (hus : ∀ v, v < 7 → us v = nI (U v) ∧ U v ≤ 9) (hgv : gv p + 1 = nI d) (hd : d ≤ 7) (h : ∀ v, d ≤ v → v ≤ 7 → (∀ x, d ≤ x → x < v → ¬ ((D p).testBit x = true ∧ U x < C x)) → (v < 7 → (D p).testBit v = true ∧ U v < C v) → post (nI v)) : wpY_nextValue post (fi, al, ev, dm, cp, gv, us, fs, su) (nI p) := by
  have e : gv (nI p).toNatClampNeg + 1 = nI d := by
    rw [nI_clamp (by omega)]
    exact hgv
  have hdl := tr_dl R hp
  refine ⟨vp_in_nI hp (by decide), nm_r e ?_⟩
  refine pk_loop (fun n v (_ : Unit) => wY_nextValue_9 post (nI p) fi al ev dm cp gv us fs su n (nI v)) (fun v _ => d ≤ v ∧ ∀ x, d ≤ x → x < v → ¬ ((D p).testBit x = true ∧ U x < C x)) 7 d () hd ⟨Nat.le_refl d, fun x h1 h2 => absurd h2 (by omega)⟩ ?_ ?_
  · intro n s hs
    exact br_t (by decide) (h 7 hs.1 (by omega) hs.2 (fun z => absurd z (by omega)))
  · intro n v s hv hs ih
    have hcl := tr_cl R hv
    have hul := (hus v hv).2
    have eu : us (nI v).toNatClampNeg = nI (U v) := by
      rw [nI_clamp (by omega)]
      exact (hus v hv).1
    have hnx : ¬ ((D p).testBit v = true ∧ U v < C v) → d ≤ v + 1 ∧ ∀ x, d ≤ x → x < v + 1 → ¬ ((D p).testBit x = true ∧ U x < C x) := by
      intro z
      refine ⟨by omega, fun x h1 h2 => ?_⟩
      by_cases q : x < v
      · exact hs.2 x h1 q
      · have e : x = v := by omega
        rw [e]
        exact z
    refine br_f (nI_ge (b := 7) hv (by decide)) ⟨vp_in_nI hp (by decide), ?_⟩
    rw [tr_d R hp]
    refine pk_eq (D p / 2 ^ v % 2) 1 (fun a => ?_) (fun a => ?_) (td_bit (by omega) (by omega))
    · have a := td_tb1.mp a
      refine ⟨vp_in_nI hv (by decide), vp_in_nI hv (by decide), ?_⟩
      rw [tr_c R hv, eu]
      exact pk_le (C v) (U v) (fun q => nm_r (nI_1 v) (ih () (hnx (fun z => by omega)))) (fun q => h v hs.1 (by omega) hs.2 (fun _ => ⟨a, q⟩))
    · exact nm_r (nI_1 v) (ih () (hnx (fun z => a (td_tb1.mpr z.1))))
end
