/-! the reference's search -/
theorem td_so_t {c v : Nat} (h : 0 < td_cn c 5 v) : td_so c (v + 1) = td_so c v ||| 2 ^ v := if_pos (decide_eq_true h)
theorem td_so_f {c v : Nat} (h : ¬ 0 < td_cn c 5 v) : td_so c (v + 1) = td_so c v := if_neg (fun z => h (of_decide_eq_true z))
section
variable {fi al ev : Int32} {dm cp gv us fs su : Nat → Int32} {D C : Nat → Nat} {post : SY → Prop}
theorem ty_45 {J : Int32 → Int32 → Int32 → Prop} {c v : Nat} {x2 z0 : Int32} (hv : v < 7) (hus : us v = nI (td_cn c 5 v)) (hx : x2 = nI (td_so c v)) (h : J z0 (nI (td_so c (v + 1))) (nI (v + 1))) : wY_noteFilling_45 post J x2 (nI v) z0 fi al ev dm cp gv us fs su := by
  have eu : us (nI v).toNatClampNeg = nI (td_cn c 5 v) := by
    rw [nI_clamp (by omega)]
    exact hus
  have hcn := td_cn_le c 5 v
  refine ⟨vp_in_nI hv (by decide), ?_⟩
  rw [eu]
  refine pk_le (td_cn c 5 v) 0 (fun q => ?_) (fun q => ?_)
  · refine nm_r (nI_1 v) ?_
    rw [hx, ← td_so_f (show ¬ 0 < td_cn c 5 v from by omega)]
    exact h
  · have e : x2 ||| ((1 : Int32) <<< (nI v &&& 31)) = nI (td_so c (v + 1)) := by
      rw [hx, td_sh1 (by omega), td_nor, td_so_t q]
    exact nm_r e (nm_r (nI_1 v) h)
theorem ty_105 {J : Int32 → (Nat → Int32) → (Nat → Int32) → (Nat → Int32) → (Nat → Int32) → (Nat → Int32) → (Nat → Int32) → Prop} {k d : Nat} {x1 x2 z0 : Int32} (hk : k < 5) (hd : d < 8) (hgv : gv k = nI d) (h : J (nI (k + 1)) dm cp gv us (upd fs k z0) (upd su k (su k ||| nI (2 ^ d)))) : wY_noteFilling_105 post J x1 x2 (nI k) z0 (nI k) fi al ev dm cp gv us fs su := by
  have ek : (nI k).toNatClampNeg = k := nI_clamp (by omega)
  have hi : vp_in (nI k) 5 := vp_in_nI hk (by decide)
  have e1 : upd fs (nI k).toNatClampNeg z0 = upd fs k z0 := by rw [ek]
  have e2 : upd su (nI k).toNatClampNeg ((su (nI k).toNatClampNeg) ||| ((1 : Int32) <<< ((gv (nI k).toNatClampNeg) &&& 31))) = upd su k (su k ||| nI (2 ^ d)) := by
    rw [ek, hgv, td_sh1 (by omega)]
  exact ⟨hi, nm_r e1 ⟨hi, hi, hi, nm_r e2 (nm_r (nI_1 k) h)⟩⟩
theorem ty_73 {c : Nat} {x1 x2 : Int32} (hgv : ∀ i, i < 5 → gv i = nI (td_dg c i)) (h : ∀ fs' su' : Nat → Int32, (∀ i, i < 5 → su' i = su i ||| nI (2 ^ td_dg c i)) → (∀ i, i < 5 → fs' i = if fi = 0 then nI (td_dg c i) else fs i) → post (fi + 1, al &&& x1, ev ||| x2, dm, cp, gv, us, fs', su')) : ∃ n73 : Nat, wY_noteFilling_73 post x1 x2 fi al ev n73 0 dm cp gv us fs su := by
  refine loop_0 (fun n k (s : (Nat → Int32) × (Nat → Int32)) => wY_noteFilling_73 post x1 x2 fi al ev n (nI k) dm cp gv us s.1 s.2) (fun k s => (∀ i, i < 5 → s.2 i = if i < k then su i ||| nI (2 ^ td_dg c i) else su i) ∧ (∀ i, i < 5 → s.1 i = if i < k then (if fi = 0 then nI (td_dg c i) else fs i) else fs i)) 5 (fs, su) ⟨fun i _ => rfl, fun i _ => rfl⟩ ?_ ?_
  · intro n s hs
    obtain ⟨f, u⟩ := s
    obtain ⟨h2, h1⟩ := hs
    refine br_t (by decide) (nm_e (nm_e (nm_e ?_)))
    refine h f u (fun i hi => ?_) (fun i hi => ?_)
    · have := h2 i hi
      rw [if_pos hi] at this
      exact this
    · have := h1 i hi
      rw [if_pos hi] at this
      exact this
  · intro n k s hk hs ih
    obtain ⟨f, u⟩ := s
    obtain ⟨h2, h1⟩ := hs
    have h2 : ∀ i, i < 5 → u i = if i < k then su i ||| nI (2 ^ td_dg c i) else su i := h2
    have h1 : ∀ i, i < 5 → f i = if i < k then (if fi = 0 then nI (td_dg c i) else fs i) else fs i := h1
    have hd := td_dg_lt c k
    have ek : (nI k).toNatClampNeg = k := nI_clamp (by omega)
    have hi : vp_in (nI k) 5 := vp_in_nI hk (by decide)
    have hu : u k = su k := by rw [h2 k hk, if_neg (Nat.lt_irrefl k)]
    have hf : f k = fs k := by rw [h1 k hk, if_neg (Nat.lt_irrefl k)]
    have nx : ∀ z : Int32, z = (if fi = 0 then nI (td_dg c k) else fs k) → wY_noteFilling_73 post x1 x2 fi al ev n (nI (k + 1)) dm cp gv us (upd f k z) (upd u k (u k ||| nI (2 ^ td_dg c k))) := by
      intro z hz
      refine ih (upd f k z, upd u k (u k ||| nI (2 ^ td_dg c k))) ⟨fun i hi => ?_, fun i hi => ?_⟩
      · show upd u k (u k ||| nI (2 ^ td_dg c k)) i = _
        by_cases q : i = k
        · subst q
          rw [pk_us, if_pos (Nat.lt_succ_self i), hu]
        · rw [pk_un q, h2 i hi]
          by_cases y : i < k
          · rw [if_pos y, if_pos (by omega)]
          · rw [if_neg y, if_neg (by omega)]
      · show upd f k z i = _
        by_cases q : i = k
        · subst q
          rw [pk_us, if_pos (Nat.lt_succ_self i)]
          exact hz
        · rw [pk_un q, h1 i hi]
          by_cases y : i < k
          · rw [if_pos y, if_pos (show i < k + 1 from by omega)]
          · rw [if_neg y, if_neg (show ¬ i < k + 1 from by omega)]
    refine br_f (nI_ge (b := 5) hk (by decide)) ?_
    refine br_c (fun q => ⟨hi, ?_⟩) (fun q => ⟨hi, ?_⟩)
    · exact ty_105 hk hd (hgv k hk) (nx _ (by rw [if_pos q, ek]; exact hgv k hk))
    · exact ty_105 hk hd (hgv k hk) (nx _ (by rw [if_neg q, ek]; exact hf))
theorem ty_nt {c : Nat} (hcp : ∀ v, v < 7 → cp v = nI (C v) ∧ C v ≤ 3) (hgv : ∀ i, i < 5 → gv i = nI (td_dg c i)) (hus : ∀ v, v < 7 → us v = nI (td_cn c 5 v)) (h : ∀ fs' su' : Nat → Int32, (∀ i, i < 5 → su' i = su i ||| nI (2 ^ td_dg c i)) → (∀ i, i < 5 → fs' i = if fi = 0 then nI (td_dg c i) else fs i) → post (fi + 1, al &&& nI (td_fu C c 7), ev ||| nI (td_so c 7), dm, cp, gv, us, fs', su')) : wpY_noteFilling post (fi, al, ev, dm, cp, gv, us, fs, su) := by
  show ∃ n6 : Nat, wY_noteFilling_6 post fi al ev dm cp gv us fs su n6 0 0 0
  refine loop_0 (fun n v (s : Int32 × Int32) => wY_noteFilling_6 post fi al ev dm cp gv us fs su n s.1 s.2 (nI v)) (fun v s => s.1 = nI (td_fu C c v) ∧ s.2 = nI (td_so c v)) 7 (0, 0) ⟨rfl, rfl⟩ ?_ ?_
  · intro n s hs
    obtain ⟨x1, x2⟩ := s
    obtain ⟨e1, e2⟩ := hs
    have e1 : x1 = nI (td_fu C c 7) := e1
    have e2 : x2 = nI (td_so c 7) := e2
    refine br_t (by decide) ?_
    show ∃ n73 : Nat, wY_noteFilling_73 post x1 x2 fi al ev n73 0 dm cp gv us fs su
    rw [e1, e2]
    exact ty_73 hgv h
  · intro n v s hv hs ih
    obtain ⟨x1, x2⟩ := s
    obtain ⟨e1, e2⟩ := hs
    have e1 : x1 = nI (td_fu C c v) := e1
    have e2 : x2 = nI (td_so c v) := e2
    have ec : cp (nI v).toNatClampNeg = nI (C v) := by
      rw [nI_clamp (by omega)]
      exact (hcp v hv).1
    have eu : us (nI v).toNatClampNeg = nI (td_cn c 5 v) := by
      rw [nI_clamp (by omega)]
      exact hus v hv
    have hcl := (hcp v hv).2
    have hcn := td_cn_le c 5 v
    have hi : vp_in (nI v) 7 := vp_in_nI hv (by decide)
    have nx : ∀ z : Int32, z = nI (td_fu C c (v + 1)) → wY_noteFilling_45 post (wY_noteFilling_6 post fi al ev dm cp gv us fs su n) x2 (nI v) z fi al ev dm cp gv us fs su := fun z hz => ty_45 hv (hus v hv) e2 (ih (z, nI (td_so c (v + 1))) ⟨hz, rfl⟩)
    have keep : ¬ (0 < C v ∧ td_cn c 5 v = C v) → x1 = nI (td_fu C c (v + 1)) := by
      intro z
      rw [td_fu_f z]
      exact e1
    refine br_f (nI_ge (b := 7) hv (by decide)) ⟨hi, ?_⟩
    rw [ec]
    refine pk_le (C v) 0 (fun q => ?_) (fun q => ⟨hi, hi, ?_⟩)
    · exact nx x1 (keep (fun z => by omega))
    · rw [eu]
      refine pk_eq (td_cn c 5 v) (C v) (fun e => ?_) (fun e => ?_)
      · refine nx _ ?_
        show x1 ||| ((1 : Int32) <<< (nI v &&& 31)) = _
        rw [e1, td_sh1 (by omega), td_nor, td_fu_t ⟨q, e⟩]
      · exact nx x1 (keep (fun z => e z.2))
/-- what the reference has gathered after its search -/
def ty_F (D C : Nat → Nat) (N : Nat) (fi al ev : Int32) (fs su : Nat → Int32) : Prop := td_ac (td_fl D C) (fun c => td_fu C c 7) (fun c => td_so c 7) N fi al ev fs su
theorem ty_lp (R : td_R D C dm cp) (h : ∀ (fi al ev : Int32) (gv us fs su : Nat → Int32), ty_F D C 32768 fi al ev fs su → post (fi, al, ev, dm, cp, gv, us, fs, su)) : ∀ (n N p : Nat) (fi al ev : Int32) (gv us fs su : Nat → Int32), p < 5 → N < 32768 → N % td_q p = 0 → td_gp D C N p → (∀ j, j < p → gv j = nI (td_dg N j)) → gv p = nI (td_dg N p) - 1 → (∀ v, v < 7 → us v = nI (td_cn N p v + if td_dg N p = v + 1 then 1 else 0)) → ty_F D C N fi al ev fs su → 6 * (32768 - N) + (5 - p) < n → wY_goOver_66 post n (nI p) fi al ev dm cp gv us fs su := by
  intro n
  induction n with
  | zero =>
    intro N p fi al ev gv us fs su hp hN hq hg hgv hgp hus hac hn
    omega
  | succ n ih =>
    intro N p fi al ev gv us fs su hp hN hq hg hgv hgp hus hac hn
    have hip : vp_in (nI p) 5 := vp_in_nI hp (by decide)
    have ep : (nI p).toNatClampNeg = p := nI_clamp (by omega)
    have hd8 := td_dg_lt N p
    have key : ∀ us' : Nat → Int32, (∀ v, v < 7 → us' v = nI (td_cn N p v)) → wY_goOver_94 post (wY_goOver_66 post n) (nI p) fi al ev dm cp gv us' fs su := by
      intro us' hus'
      have hgd : gv p + 1 = nI (td_dg N p) := by
        rw [hgp, Int32.sub_add_cancel]
      refine ty_nv (U := td_cn N p) (d := td_dg N p) R hp (fun v hv => ⟨hus' v hv, Nat.le_trans (td_cn_le N p v) (by omega)⟩) hgd (by omega) (fun v h1 h2 h3 h4 => ?_)
      have e1 : upd gv (nI p).toNatClampNeg (nI v) = upd gv p (nI v) := by rw [ep]
      refine ⟨hip, nm_r e1 ⟨hip, ?_⟩⟩
      have e2 : upd gv p (nI v) (nI p).toNatClampNeg = nI v := by rw [ep, pk_us]
      rw [e2]
      obtain ⟨M, hM⟩ : ∃ M, M = N + (v - td_dg N p) * td_q p := ⟨_, rfl⟩
      obtain ⟨a1, a2, a3, a4, a5, a6⟩ := td_L1 p hp N v M hN hq h1 h2 hM
      have hacM : ty_F D C M fi al ev fs su := td_ac_to hac a5 (fun c c1 c2 => by
        obtain ⟨b1, b2, b3⟩ := a6 c c1 c2
        exact td_nf hp b1 (fun z => h3 _ b2 b3 ⟨z.2.1, z.2.2⟩))
      have hgM : td_gp D C M p := td_gp_cg a4 hg
      have hcM : ∀ x, td_cn M p x = td_cn N p x := fun x => td_cn_eq a4 x
      have hgvM : ∀ j, j < p → upd gv p (nI v) j = nI (td_dg M j) := by
        intro j hj
        rw [pk_un (by omega), hgv j hj, a4 j hj]
      refine pk_eq v 7 (fun e7 => ?_) (fun e7 => ?_)
      · subst e7
        cases p with
        | zero =>
          obtain ⟨m, hm⟩ : ∃ m, n = m + 1 := ⟨n - 1, by omega⟩
          obtain ⟨l1, l2⟩ := td_L30 a1 a2 a3
          subst hm
          refine nm_e (br_t (by decide) (h _ _ _ _ _ _ _ ?_))
          have hz : ty_F D C (M + td_q 0) fi al ev fs su := td_ac_to hacM (by omega) (fun c c1 c2 => td_nf (p := 0) (N := M) (by omega) (fun j hj => absurd hj (Nat.not_lt_zero j)) (fun z => by have := l2 c c1 c2; omega))
          rw [l1] at hz
          exact hz
        | succ r =>
          obtain ⟨M', hM'⟩ : ∃ M', M' = M + td_q (r + 1) := ⟨_, rfl⟩
          have hr7 : td_dg M r < 7 := by
            have y := (hgM r (by omega)).1
            have := td_dg_lt M r
            omega
          obtain ⟨l1, l2, l3, l4, l5, l6⟩ := td_L3 r (by omega) M M' a1 a2 a3 hr7 hM'
          have hz : ty_F D C M' fi al ev fs su := td_ac_to hacM l5 (fun c c1 c2 => td_nf (p := r + 1) (N := M) hp (l6 c c1 c2).1 (fun z => by have := (l6 c c1 c2).2; omega))
          have hlt : M < M' := by
            have : 0 < td_q (r + 1) := by
              unfold td_q
              split <;> decide
            omega
          refine nm_r (pk_m1 r) (ih M' r fi al ev _ us' fs su (by omega) l1 l2 (td_gp_cg l4 (td_gp_d hgM)) (fun j hj => ?_) ?_ (fun x hx => ?_) hz (by omega))
          · rw [hgvM j (by omega), l4 j hj]
          · rw [hgvM r (by omega), l3, nI_pred]
          · rw [hus' x hx, ← hcM x, td_cn_s, td_cn_eq l4 x, l3]
            by_cases q : td_dg M r = x
            · rw [if_pos q, if_pos (by omega)]
            · rw [if_neg q, if_neg (by omega)]
      · have hv : v < 7 := by omega
        have hiv : vp_in (nI v) 7 := vp_in_nI hv (by decide)
        have ev' : (nI v).toNatClampNeg = v := nI_clamp (by omega)
        have e3 : upd us' (nI v).toNatClampNeg (us' (nI v).toNatClampNeg + 1) = upd us' v (us' v + 1) := by rw [ev']
        have hgood := h4 hv
        have hg1 : td_gp D C M (p + 1) := td_gp_s hgM (by omega) (by rw [a3]; exact hgood.1) (by rw [a3, hcM]; exact hgood.2)
        have hu : ∀ x, x < 7 → upd us' v (us' v + 1) x = nI (td_cn M (p + 1) x) := by
          intro x hx
          rw [td_cn_s, a3, hcM x]
          by_cases q : v = x
          · subst q
            rw [pk_us, hus' v hx, nI_1, if_pos rfl]
          · rw [pk_un (fun z => q z.symm), hus' x hx, if_neg q]
            rfl
        have hgp1 : ∀ j, j < p + 1 → upd gv p (nI v) j = nI (td_dg M j) := lt_s hgvM (by rw [pk_us, a3])
        refine ⟨hip, hiv, hiv, nm_r e3 ?_⟩
        refine pk_eq p 4 (fun p4 => ?_) (fun p4 => ?_)
        · subst p4
          have hfl := td_gp_5 hg1
          obtain ⟨l1, l2, l3⟩ := td_L4 a1 (show td_dg M 4 < 7 from by omega)
          refine ty_nt (c := M) R.2 hgp1 hu (fun fs' su' g1 g2 => ?_)
          refine ih (M + 1) 4 _ _ _ _ _ fs' su' (by omega) l1 (by rw [td_q4]; exact Nat.mod_one _) (td_gp_cg l3 hgM) (fun j hj => ?_) ?_ (fun x hx => ?_) (td_ac_t hacM a1 hfl g1 g2) (by omega)
          · rw [hgvM j hj, l3 j hj]
          · rw [pk_us, l2, a3, nI_pred]
          · rw [hu x hx, td_cn_s, td_cn_eq l3 x, l2]
            by_cases q : td_dg M 4 = x
            · rw [if_pos q, if_pos (by omega)]
            · rw [if_neg q, if_neg (by omega)]
        · have hp4 : p < 4 := by omega
          obtain ⟨l1, l2⟩ := td_L2 p hp4 M a2
          have e4 : upd (upd gv p (nI v)) (nI (p + 1)).toNatClampNeg (-1) = upd (upd gv p (nI v)) (p + 1) (-1) := by rw [nI_clamp (by omega)]
          refine nm_r (nI_1 p) ⟨vp_in_nI (by omega) (by decide), nm_r e4 ?_⟩
          refine ih M (p + 1) fi al ev _ _ fs su (by omega) a1 l1 hg1 (fun j hj => ?_) ?_ (fun x hx => ?_) hacM (by omega)
          · rw [pk_un (by omega), hgp1 j hj]
          · rw [pk_us, l2]
            decide
          · rw [hu x hx, l2, if_neg (by omega)]
            rfl
    refine br_f (nI_pos (by omega)) ⟨hip, ?_⟩
    have egv : gv (nI p).toNatClampNeg = nI (td_dg N p) - 1 := by rw [ep, hgp]
    rw [egv]
    by_cases hz : td_dg N p = 0
    · refine br_t (by rw [hz]; decide) (key us (fun v hv => ?_))
      rw [hus v hv, hz, if_neg (by omega)]
      rfl
    · obtain ⟨e, he⟩ : ∃ e, td_dg N p = e + 1 := ⟨td_dg N p - 1, by omega⟩
      rw [he, nI_pred]
      have hie : vp_in (nI e) 7 := vp_in_nI (by omega) (by decide)
      have ee : (nI e).toNatClampNeg = e := nI_clamp (by omega)
      refine br_f (nI_pos (by omega)) ⟨hip, hie, hie, nm_e (key _ (fun v hv => ?_))⟩
      rw [ee]
      by_cases q : v = e
      · subst q
        rw [pk_us, hus v hv, if_pos he, nI_pred]
      · rw [pk_un q, hus v hv, if_neg (by omega)]
        rfl
theorem ty_go (R : td_R D C dm cp) (h : ∀ (fi al ev : Int32) (gv us fs su : Nat → Int32), ty_F D C 32768 fi al ev fs su → post (fi, al, ev, dm, cp, gv, us, fs, su)) : wpY_goOver post (fi, al, ev, dm, cp, gv, us, fs, su) := by
  show ∃ n18 : Nat, wY_goOver_18 post 0 127 0 n18 0 dm cp gv us fs su
  refine loop_0 (fun n k s => wY_goOver_18 post 0 127 0 n (nI k) dm cp gv us fs s) (fun k s => ∀ i, i < k → s i = 0) 5 su (fun b hb => absurd hb (Nat.not_lt_zero b)) ?_ ?_
  · intro n su' hsu
    refine br_t (by decide) ?_
    refine loop_0 (fun n k s => wY_goOver_38 post 0 127 0 n (nI k) dm cp gv s fs su') (fun k s => ∀ i, i < k → s i = 0) 7 us (fun b hb => absurd hb (Nat.not_lt_zero b)) ?_ ?_
    · intro n us' hus
      refine br_t (by decide) (nm_e ⟨6 * 32768 + 6, ?_⟩)
      refine ty_lp R h (6 * 32768 + 6) 0 0 0 127 0 _ us' fs su' (by omega) (by omega) (by decide) (fun j hj => absurd hj (Nat.not_lt_zero j)) (fun j hj => absurd hj (Nat.not_lt_zero j)) ?_ (fun v hv => ?_) ⟨rfl, rfl, rfl, fun i hi => hsu i hi, fun c hc => absurd hc (Nat.not_lt_zero c)⟩ (by omega)
      · rw [pk_us]
        decide
      · rw [hus v hv]
        rfl
    · intro n k s hk hs ih
      have ek : upd s (nI k).toNatClampNeg 0 = upd s k 0 := by rw [nI_clamp (by omega)]
      refine br_f (nI_ge (b := 7) hk (by decide)) ⟨vp_in_nI hk (by decide), nm_r ek (nm_r (nI_1 k) (ih _ (lt_s (fun i hi => ?_) pk_us)))⟩
      rw [pk_un (by omega)]
      exact hs i hi
  · intro n k s hk hs ih
    have ek : upd s (nI k).toNatClampNeg 0 = upd s k 0 := by rw [nI_clamp (by omega)]
    refine br_f (nI_ge (b := 5) hk (by decide)) ⟨vp_in_nI hk (by decide), nm_r ek (nm_r (nI_1 k) (ih _ (lt_s (fun i hi => ?_) pk_us)))⟩
    rw [pk_un (by omega)]
    exact hs i hi
end
