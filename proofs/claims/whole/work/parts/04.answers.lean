/-! one answer for both sides: first, last, tail, within; what shorten leaves -/
section
variable {ts ss : Nat} {cI wI sI : Int32} {tx cd wh sz pt bg lg : Nat → Int32}
theorem cz_first (ht : ts ≤ 250) (hs : ss ≤ 6) : ∀ d p : Nat, p + d = ts →
    ∃ r : Int32, (∀ post : Int32 → Prop, post r → wX_first_2 post (nI ts) cI wI (nI ss) tx cd wh sz pt (d + 1) (nI p)) ∧
      (∀ post : Int32 → Prop, post r → wY_first_2 post (nI ts) cI wI (nI ss) tx bg wh lg pt (d + 1) (nI p)) := by
  intro d
  induction d with
  | zero =>
    intro p hp
    have h : nI ts ≤ nI p := nI_le (by omega) (by omega)
    exact ⟨-1, fun _ hP => br_t h hP, fun _ hP => br_t h hP⟩
  | succ d ih =>
    intro p hp
    have h : ¬ nI ts ≤ nI p := nI_ge (by omega) (by omega)
    cases hb : cq_o tx pt ts ss p with
    | false =>
      obtain ⟨r, hX, hY⟩ := ih (p + 1) (by omega)
      refine ⟨r, fun post hP => br_f h (cx_oc (by omega) ht hs ?_), fun post hP => br_f h (cy_at (by omega) ht hs ?_)⟩
      · rw [hb]; exact br_t rfl (nm_r (nI_1 p) (hX post hP))
      · rw [hb]; exact br_t rfl (nm_r (nI_1 p) (hY post hP))
    | true =>
      refine ⟨nI p, fun post hP => br_f h (cx_oc (by omega) ht hs ?_), fun post hP => br_f h (cy_at (by omega) ht hs ?_)⟩
      · rw [hb]; exact br_f (by decide) hP
      · rw [hb]; exact br_f (by decide) hP
theorem cz_m1 (q : Nat) : nI q + (-1) = nI q - 1 := by
  rw [Int32.sub_eq_add_neg]
theorem cz_last (ht : ts ≤ 250) (hs : ss ≤ 6) : ∀ q : Nat, q ≤ ts →
    ∃ r : Int32, (∀ post : Int32 → Prop, post r → wX_last_7 post (nI ts) cI wI (nI ss) tx cd wh sz pt (q + 1) (nI q - 1)) ∧
      (∀ post : Int32 → Prop, post r → wY_last_7 post (nI ts) cI wI (nI ss) tx bg wh lg pt (q + 1) (nI q - 1)) := by
  intro q
  induction q with
  | zero =>
    intro _
    have h : nI 0 - 1 < 0 := by decide
    exact ⟨-1, fun _ hP => br_t h hP, fun _ hP => br_t h hP⟩
  | succ q ih =>
    intro hq
    rw [nI_pred]
    have h : ¬ nI q < 0 := nI_pos (by omega)
    cases hb : cq_o tx pt ts ss q with
    | false =>
      obtain ⟨r, hX, hY⟩ := ih (by omega)
      refine ⟨r, fun post hP => br_f h (cx_oc (by omega) ht hs ?_), fun post hP => br_f h (cy_at (by omega) ht hs ?_)⟩
      · rw [hb]; exact br_t rfl (nm_r (cz_m1 q) (hX post hP))
      · rw [hb]; exact br_t rfl (nm_r (cz_m1 q) (hY post hP))
    | true =>
      refine ⟨nI q, fun post hP => br_f h (cx_oc (by omega) ht hs ?_), fun post hP => br_f h (cy_at (by omega) ht hs ?_)⟩
      · rw [hb]; exact br_f (by decide) hP
      · rw [hb]; exact br_f (by decide) hP
theorem cy_t0 {post J5 : Int32 → Prop} {q : Nat} (n : Nat) {x3 : Int32} (hJ : J5 (nI q)) : wY_tail_25 post J5 (nI (q + 1)) (nI ts) cI wI sI tx bg wh lg pt (n + 1) 0 x3 :=
  br_c (fun _ => br_t rfl (nm_r (pk_m1 q) hJ)) (fun _ => br_t rfl (br_t rfl (nm_r (pk_m1 q) hJ)))
theorem cy_t1 {post J5 : Int32 → Prop} {q : Nat} (hq : q + 1 ≤ ts) (ht : ts ≤ 250) (h6 : q + 1 ≤ 6)
    (hT : cq_b tx pt (ts - (q + 1)) (q + 1) = true → post (nI (q + 1))) (hF : cq_b tx pt (ts - (q + 1)) (q + 1) = false → J5 (nI q)) :
    ∀ d i : Nat, i + d = q + 1 → (∀ j, j < i → tx (ts - (q + 1) + j) = pt j) → wY_tail_25 post J5 (nI (q + 1)) (nI ts) cI wI sI tx bg wh lg pt (d + 1 + 1) 1 (nI i) := by
  intro d
  induction d with
  | zero =>
    intro i hi he
    have hb : cq_b tx pt (ts - (q + 1)) (q + 1) = true := cq_bt (by rw [← show i = q + 1 by omega] at he ⊢; exact he)
    exact br_t (nI_le (by omega) (by omega)) (br_f (by decide) (hT hb))
  | succ d ih =>
    intro i hi he
    have a0 : nI ts - nI (q + 1) = nI (ts - (q + 1)) := pk_sub hq
    have a1 := cq_ix (p := ts - (q + 1)) (i := i) (by omega)
    have a2 := cq_ci (i := i) (by omega)
    have hc : (tx (nI ts - nI (q + 1) + nI i).toNatClampNeg = pt (nI i).toNatClampNeg) ↔ (tx (ts - (q + 1) + i) = pt i) := by rw [a0, a1, a2]
    have hv : vp_in (nI ts - nI (q + 1) + nI i) 250 := by rw [a0]; exact cq_vi (by omega) (by omega)
    refine br_f (nI_ge (by omega) (by omega)) (br_f (by decide) ⟨hv, vp_in_nI (by omega) (by omega), ?_⟩)
    by_cases e : tx (ts - (q + 1) + i) = pt i
    · refine br_t (hc.mpr e) (nm_r (nI_1 i) ?_)
      refine ih (i + 1) (by omega) (fun j hj => ?_)
      by_cases h : j = i
      · rw [h]; exact e
      · exact he j (by omega)
    · exact br_f (fun z => e (hc.mp z)) (nm_e (cy_t0 (d + 1) (hF (cq_bf (by omega) e))))
theorem cz_tail (ht : ts ≤ 250) : ∀ q : Nat, q ≤ 6 →
    ∃ r : Int32, (∀ post : Int32 → Prop, post r → wX_tail_5 post (nI ts) cI wI sI tx cd wh sz pt (q + 1) (nI q)) ∧
      (∀ post : Int32 → Prop, post r → wY_tail_5 post (nI ts) cI wI sI tx bg wh lg pt (q + 1) (nI q)) := by
  intro q
  induction q with
  | zero =>
    intro _
    have h : nI 0 ≤ 0 := by decide
    exact ⟨0, fun _ hP => br_t h hP, fun _ hP => br_t h hP⟩
  | succ q ih =>
    intro hq
    have h : ¬ nI (q + 1) ≤ 0 := nI_nle (by omega) (by omega)
    obtain ⟨r, hX, hY⟩ := ih (by omega)
    by_cases hl : q + 1 ≤ ts
    · have a0 : nI ts - nI (q + 1) = nI (ts - (q + 1)) := pk_sub hl
      have hl2 : ¬ nI ts < nI (q + 1) := nI_nlt hl (by omega)
      have key : ∀ post : Int32 → Prop, (cq_b tx pt (ts - (q + 1)) (q + 1) = true → post (nI (q + 1))) → (cq_b tx pt (ts - (q + 1)) (q + 1) = false → wX_tail_5 post (nI ts) cI wI sI tx cd wh sz pt (q + 1) (nI q)) → wX_tail_5 post (nI ts) cI wI sI tx cd wh sz pt (q + 1 + 1) (nI (q + 1)) := by
        intro post hT hF
        have k2 : wpX_beginningStandsAt (fun r_2 => (r_2 = 0 → ∀ y, y = nI (q + 1) + (-1) → wX_tail_5 post (nI ts) cI wI sI tx cd wh sz pt (q + 1) y) ∧ (¬ r_2 = 0 → post (nI (q + 1)))) (nI ts, cI, wI, sI, tx, cd, wh, sz, pt) (nI (ts - (q + 1))) (nI (q + 1)) := by
          refine cx_bsA (by omega) ht hq ?_
          cases hb : cq_b tx pt (ts - (q + 1)) (q + 1) with
          | false => exact br_t rfl (nm_r (pk_m1 q) (hF hb))
          | true => exact br_f (by decide) (hT hb)
        rw [← a0] at k2
        exact br_f h k2
      cases hb : cq_b tx pt (ts - (q + 1)) (q + 1) with
      | false =>
        refine ⟨r, fun post hP => key post (fun z => absurd (hb.symm.trans z) (by decide)) (fun _ => hX post hP), fun post hP => br_f h (br_f hl2 ⟨q + 1 + 1 + 1, ?_⟩)⟩
        exact cy_t1 hl ht hq (fun z => absurd (hb.symm.trans z) (by decide)) (fun _ => hY post hP) (q + 1) 0 (by omega) (fun j hj => absurd hj (Nat.not_lt_zero j))
      | true =>
        refine ⟨nI (q + 1), fun post hP => key post (fun _ => hP) (fun z => absurd (hb.symm.trans z) (by decide)), fun post hP => br_f h (br_f hl2 ⟨q + 1 + 1 + 1, ?_⟩)⟩
        exact cy_t1 hl ht hq (fun _ => hP) (fun z => absurd (hb.symm.trans z) (by decide)) (q + 1) 0 (by omega) (fun j hj => absurd hj (Nat.not_lt_zero j))
    · have hl2 : nI ts < nI (q + 1) := nI_lt (by omega) (by omega)
      have hn : nI ts - nI (q + 1) < 0 := pk_sneg (by omega) (by omega)
      exact ⟨r, fun post hP => br_f h (cx_bsB hn (br_t rfl (nm_r (pk_m1 q) (hX post hP)))), fun post hP => br_f h (br_t hl2 ⟨1, cy_t0 0 (hY post hP)⟩)⟩
theorem cx_ce {cc : Nat} {cs : Nat → Nat} {post : Int32 → Prop} {k : Nat} (K : cq_K ts cc cs cd bg) (hc : cc ≤ 250) (hk : k < cc) (hP : post (nI (cs (k + 1)))) :
    wpX_codeEnd post (nI ts, nI cc, wI, sI, tx, cd, wh, sz, pt) (nI k) := by
  by_cases h : k + 1 < cc
  · have h1 : ¬ nI cc ≤ nI k + 1 := by rw [nI_1]; exact nI_ge h (by omega)
    have h2 : vp_in (nI k + 1) 250 := by rw [nI_1]; exact vp_in_nI (by omega) (by omega)
    have h3 : cd (nI k + 1).toNatClampNeg = nI (cs (k + 1)) := by rw [nI_1, cq_ci (by omega)]; exact K.2.2.2.1 _ h
    refine br_f h1 ⟨h2, ?_⟩
    rw [h3]; exact hP
  · have h1 : nI cc ≤ nI k + 1 := by rw [nI_1]; exact nI_le (by omega) (by omega)
    refine br_t h1 ?_
    rw [show k + 1 = cc by omega, K.2.1] at hP
    exact hP
theorem cz_within {cc : Nat} {cs : Nat → Nat} (K : cq_K ts cc cs cd bg) (hc : cc ≤ 250) (ht : ts ≤ 250) (hs : ss ≤ 6) : ∀ (d k : Nat) (s : Int32), k + d = cc →
    ∃ r : Int32, (∀ post : Int32 → Prop, post r → wX_within_4 post (nI ts) (nI cc) wI (nI ss) tx cd wh sz pt (d + 1) s (nI k)) ∧
      (∀ post : Int32 → Prop, post r → wY_within_4 post (nI ts) (nI cc) wI (nI ss) tx bg wh lg pt (d + 1) s (nI k)) := by
  intro d
  induction d with
  | zero =>
    intro k s hk
    have h : nI cc ≤ nI k := nI_le (by omega) (by omega)
    exact ⟨s, fun _ hP => br_t h hP, fun _ hP => br_t h hP⟩
  | succ d ih =>
    intro k s hk
    have h : ¬ nI cc ≤ nI k := nI_ge (by omega) (by omega)
    have l0 := cq_Kl K (i := k) (by omega)
    have l1 := cq_Kl K (i := k + 1) (by omega)
    have e0 : cd (nI k).toNatClampNeg = nI (cs k) := by rw [cq_ci (by omega)]; exact K.2.2.2.1 _ (by omega)
    have b0 : bg (nI k).toNatClampNeg = nI (cs k) := by rw [cq_ci (by omega)]; exact K.2.2.2.2 _ (by omega)
    have b1 : bg (nI k + 1).toNatClampNeg = nI (cs (k + 1)) := by rw [nI_1, cq_ci (by omega)]; exact K.2.2.2.2 _ (by omega)
    have v1 : vp_in (nI k + 1) 251 := by rw [nI_1]; exact vp_in_nI (by omega) (by omega)
    have t0 : (nI (cs k)).toInt = (cs k : Int) := nI_toInt (by omega)
    have t1 : (nI (cs (k + 1)) - nI ss).toInt = (cs (k + 1) : Int) - ss := pk_sub_toInt (by omega) (by omega)
    obtain ⟨r, hX, hY⟩ := ih (k + 1) (s + nI (cq_C (cq_o tx pt ts ss) (cs (k + 1) + 1 - ss) - cq_C (cq_o tx pt ts ss) (cs k))) (by omega)
    refine ⟨r, fun post hP => br_f h (cx_ce K hc (by omega) ⟨vp_in_nI (by omega) (by omega), ?_⟩), fun post hP => br_f h ⟨vp_in_nI (by omega) (by omega), v1, ?_⟩⟩
    · rw [e0]
      refine cx_ofW (by omega) (by omega) ht hs ?_
      rw [t0, t1, show ((cs (k + 1) : Int) - ss + 1).toNat = cs (k + 1) + 1 - ss by omega, Int.toNat_natCast]
      exact nm_e (nm_r (nI_1 k) (hX post hP))
    · rw [b0, b1]
      exact cy_btW (by omega) (by omega) ht hs (nm_e (nm_r (nI_1 k) (hY post hP)))
theorem cz_short (x1 : Int32) (hs : ss ≤ 6) : ∀ (d i : Nat) (pt : Nat → Int32), i + d = ss → 1 ≤ i →
    ∃ pt' : Nat → Int32, (∀ post : Int32 → SX → Prop, post x1 (nI ts, cI, wI, nI (ss - 1), tx, cd, wh, sz, pt') → wX_shorten_18 post x1 (nI ts) cI wI (nI ss) (d + 1) (nI i) tx cd wh sz pt) ∧
      (∀ post : Int32 → SY → Prop, post x1 (nI ts, cI, wI, nI (ss - 1), tx, bg, wh, lg, pt') → wY_shorten_18 post x1 (nI ts) cI wI (nI ss) (d + 1) (nI i) tx bg wh lg pt) := by
  intro d
  induction d with
  | zero =>
    intro i pt hi h1
    have h : nI ss ≤ nI i := nI_le (by omega) (by omega)
    have e : nI ss - 1 = nI (ss - 1) := pk_sub (a := ss) (b := 1) (by omega)
    exact ⟨pt, fun _ hP => br_t h (nm_r e hP), fun _ hP => br_t h (nm_r e hP)⟩
  | succ d ih =>
    intro i pt hi h1
    have h : ¬ nI ss ≤ nI i := nI_ge (by omega) (by omega)
    have e : nI i - 1 = nI (i - 1) := pk_sub (a := i) (b := 1) (by omega)
    have v0 : vp_in (nI i) 6 := vp_in_nI (by omega) (by omega)
    have v1 : vp_in (nI i - 1) 6 := by rw [e]; exact vp_in_nI (by omega) (by omega)
    obtain ⟨pt', hX, hY⟩ := ih (i + 1) (upd pt (nI i - 1).toNatClampNeg (pt (nI i).toNatClampNeg)) (by omega) (by omega)
    exact ⟨pt', fun post hP => br_f h ⟨v0, v1, nm_e (nm_r (nI_1 i) (hX post hP))⟩, fun post hP => br_f h ⟨v0, v1, nm_e (nm_r (nI_1 i) (hY post hP))⟩⟩
end
