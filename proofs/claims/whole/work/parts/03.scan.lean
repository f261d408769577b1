/-! the scans: a beginning at a place, an occurrence, their counts, on both sides against the pictures -/
theorem cq_ix {p i : Nat} (h : p + i < 1000) : (nI p + nI i).toNatClampNeg = p + i := by
  rw [nI_add]; exact nI_clamp (by omega)
theorem cq_ci {i : Nat} (h : i < 1000) : (nI i).toNatClampNeg = i := nI_clamp (by omega)
theorem cq_vi {p i N : Nat} (h : p + i < N) (hN : N < 1000) : vp_in (nI p + nI i) N := by
  rw [nI_add]; exact vp_in_nI h (by omega)
theorem cq_Bt : cq_B true = 1 := rfl
theorem cq_Bf : cq_B false = 0 := rfl
theorem cq_ss {ss : Nat} (h : 0 < ss) (h6 : ss ≤ 6) : ¬ nI ss ≤ 0 := nI_nle h (by omega)
section
variable {ts ss : Nat} {cI wI sI : Int32} {tx cd wh sz pt bg lg : Nat → Int32}
theorem cx_bs {post : Int32 → Prop} {p n : Nat} (hp : p + n ≤ ts) (ht : ts ≤ 250) (hn : n ≤ 6) (hP : post (cq_B (cq_b tx pt p n))) :
    ∀ d i : Nat, i + d = n → (∀ j, j < i → tx (p + j) = pt j) → wX_beginningStandsAt_18 post (nI p) (nI n) (nI ts) cI wI sI tx cd wh sz pt (d + 1) (nI i) := by
  intro d
  induction d with
  | zero =>
    intro i hi he
    have hb : cq_b tx pt p n = true := cq_bt (by rw [show n = i by omega]; exact he)
    rw [hb, cq_Bt] at hP
    exact br_t (nI_le (by omega) (by omega)) hP
  | succ d ih =>
    intro i hi he
    have a1 := cq_ix (p := p) (i := i) (by omega)
    have a2 := cq_ci (i := i) (by omega)
    have hc : (tx (nI p + nI i).toNatClampNeg = pt (nI i).toNatClampNeg) ↔ (tx (p + i) = pt i) := by rw [a1, a2]
    refine br_f (nI_ge (by omega) (by omega)) ⟨cq_vi (by omega) (by omega), vp_in_nI (by omega) (by omega), ?_⟩
    by_cases e : tx (p + i) = pt i
    · refine br_t (hc.mpr e) (nm_r (nI_1 i) ?_)
      refine ih (i + 1) (by omega) (fun j hj => ?_)
      by_cases h : j = i
      · rw [h]; exact e
      · exact he j (by omega)
    · refine br_f (fun z => e (hc.mp z)) ?_
      rw [cq_bf (by omega) e, cq_Bf] at hP
      exact hP
theorem cx_bsA {post : Int32 → Prop} {p n : Nat} (hp : p + n ≤ ts) (ht : ts ≤ 250) (hn : n ≤ 6) (hP : post (cq_B (cq_b tx pt p n))) :
    wpX_beginningStandsAt post (nI ts, cI, wI, sI, tx, cd, wh, sz, pt) (nI p) (nI n) := by
  have h1 : ¬ nI p < 0 := nI_pos (by omega)
  have h2 : nI p ≤ nI ts - nI n := by
    rw [pk_sub (by omega)]; exact nI_le (by omega) (by omega)
  exact br_f h1 (br_t h2 ⟨n + 1, cx_bs hp ht hn hP n 0 (by omega) (fun j hj => absurd hj (Nat.not_lt_zero j))⟩)
theorem cx_bsB {post : Int32 → Prop} {x y : Int32} (hx : x < 0) (hP : post 0) :
    wpX_beginningStandsAt post (nI ts, cI, wI, sI, tx, cd, wh, sz, pt) x y := br_t hx hP
theorem cx_bsC {post : Int32 → Prop} {p n : Nat} (hp : ts < p + n) (h1000 : p ≤ 1000) (ht : ts ≤ 250) (hn : n ≤ 6) (hP : post 0) :
    wpX_beginningStandsAt post (nI ts, cI, wI, sI, tx, cd, wh, sz, pt) (nI p) (nI n) := by
  have h1 : ¬ nI p < 0 := nI_pos (by omega)
  have h2 : ¬ nI p ≤ nI ts - nI n := by
    rw [cq_le, pk_sub_toInt (by omega) (by omega), nI_toInt (by omega)]; omega
  exact br_f h1 (br_f h2 hP)
theorem cx_oc {post : Int32 → Prop} {p : Nat} (h1000 : p ≤ 1000) (ht : ts ≤ 250) (hs : ss ≤ 6) (hP : post (cq_B (cq_o tx pt ts ss p))) :
    wpX_occursAt post (nI ts, cI, wI, nI ss, tx, cd, wh, sz, pt) (nI p) := by
  by_cases h0 : ss = 0
  · subst h0
    exact br_t (by decide) hP
  · refine br_f (cq_ss (by omega) hs) ?_
    by_cases h1 : p + ss ≤ ts
    · rw [cq_ot (by omega) h1] at hP
      refine cx_bsA h1 ht hs ?_
      cases hb : cq_b tx pt p ss with
      | false => rw [hb] at hP; exact br_t rfl hP
      | true => rw [hb] at hP; exact br_f (by decide) hP
    · rw [cq_of (by omega)] at hP
      exact cx_bsC (by omega) h1000 ht hs (br_t rfl hP)
theorem cx_on {post : Int32 → Prop} {x : Int32} (hx : x < 0) (hs : ss ≤ 6) (hP : post 0) :
    wpX_occursAt post (nI ts, cI, wI, nI ss, tx, cd, wh, sz, pt) x := by
  by_cases h0 : ss = 0
  · subst h0
    exact br_t (by decide) hP
  · exact br_f (cq_ss (by omega) hs) (cx_bsB hx (br_t rfl hP))
theorem cy_at0 {post : Int32 → Prop} {x1 x3 f1 f2 f3 f4 : Int32} (n : Nat) (hP : post 0) : wY_at_32 post x1 f1 f2 f3 f4 tx bg wh lg pt (n + 1) 0 x3 :=
  br_c (fun _ => ⟨rfl, hP⟩) (fun _ => br_t rfl ⟨rfl, hP⟩)
theorem cy_at1 {post : Int32 → Prop} {p : Nat} (hp : p + ss ≤ ts) (ht : ts ≤ 250) (hs : ss ≤ 6) (hP : post (cq_B (cq_b tx pt p ss))) :
    ∀ d i : Nat, i + d = ss → (∀ j, j < i → tx (p + j) = pt j) → wY_at_32 post (nI p) (nI ts) cI wI (nI ss) tx bg wh lg pt (d + 1 + 1) 1 (nI i) := by
  intro d
  induction d with
  | zero =>
    intro i hi he
    have hb : cq_b tx pt p ss = true := cq_bt (by rw [show ss = i by omega]; exact he)
    rw [hb, cq_Bt] at hP
    exact br_t (nI_le (by omega) (by omega)) ⟨rfl, hP⟩
  | succ d ih =>
    intro i hi he
    have a1 := cq_ix (p := p) (i := i) (by omega)
    have a2 := cq_ci (i := i) (by omega)
    have hc : (tx (nI p + nI i).toNatClampNeg = pt (nI i).toNatClampNeg) ↔ (tx (p + i) = pt i) := by rw [a1, a2]
    refine br_f (nI_ge (by omega) (by omega)) (br_f (by decide) ⟨cq_vi (by omega) (by omega), vp_in_nI (by omega) (by omega), ?_⟩)
    by_cases e : tx (p + i) = pt i
    · refine br_t (hc.mpr e) (nm_r (nI_1 i) ?_)
      refine ih (i + 1) (by omega) (fun j hj => ?_)
      by_cases h : j = i
      · rw [h]; exact e
      · exact he j (by omega)
    · rw [cq_bf (by omega) e, cq_Bf] at hP
      exact br_f (fun z => e (hc.mp z)) (nm_e (cy_at0 (d + 1) hP))
theorem cy_at {post : Int32 → Prop} {p : Nat} (h1000 : p ≤ 1000) (ht : ts ≤ 250) (hs : ss ≤ 6) (hP : post (cq_B (cq_o tx pt ts ss p))) :
    wpY_at post (nI ts, cI, wI, nI ss, tx, bg, wh, lg, pt) (nI p) := by
  by_cases h0 : ss = 0
  · subst h0
    exact br_t (by decide) ⟨1, cy_at0 0 hP⟩
  · refine br_f (cq_ss (by omega) hs) (br_f (nI_pos (by omega)) ?_)
    by_cases h1 : p + ss ≤ ts
    · rw [cq_ot (by omega) h1] at hP
      have h2 : ¬ nI ts < nI p + nI ss := by rw [nI_add]; exact nI_nlt h1 (by omega)
      exact br_f h2 ⟨ss + 1 + 1, cy_at1 h1 ht hs hP ss 0 (by omega) (fun j hj => absurd hj (Nat.not_lt_zero j))⟩
    · rw [cq_of (by omega)] at hP
      have h2 : nI ts < nI p + nI ss := by rw [nI_add]; exact nI_lt (by omega) (by omega)
      exact br_t h2 ⟨1, cy_at0 0 hP⟩
theorem cx_of {post : Int32 → Prop} {g : Int32} (hg : -10 ≤ g.toInt ∧ g.toInt ≤ 260) (ht : ts ≤ 250) (hs : ss ≤ 6) :
    ∀ (d : Nat) (x : Int32) (f : Nat), (g.toInt + 1 - x.toInt).toNat = d → -10 ≤ x.toInt ∧ x.toInt ≤ 270 →
      post (nI (f + (cq_C (cq_o tx pt ts ss) (g.toInt + 1).toNat - cq_C (cq_o tx pt ts ss) x.toInt.toNat))) →
      wX_occurrencesFrom_5 post g (nI ts) cI wI (nI ss) tx cd wh sz pt (d + 1) (nI f) x := by
  intro d
  induction d with
  | zero =>
    intro x f hd hx hP
    have hm := cq_Cm (cq_o tx pt ts ss) (m := (g.toInt + 1).toNat) (n := x.toInt.toNat) (by omega)
    rw [Nat.sub_eq_zero_of_le hm] at hP
    exact br_t (cq_lt.mpr (by omega)) hP
  | succ d ih =>
    intro x f hd hx hP
    have h1 : (x + 1).toInt = x.toInt + 1 := cq_s (by omega)
    refine br_f (fun z => ?_) ?_
    · have := cq_lt.mp z; omega
    · by_cases h0 : x.toInt < 0
      · refine cx_on (cq_lt.mpr (by rw [cq_i0]; exact h0)) hs (br_t rfl (nm_e ?_))
        refine ih (x + 1) f (by omega) (by omega) ?_
        rw [h1, show (x.toInt + 1).toNat = x.toInt.toNat by omega]
        exact hP
      · have hm := cq_Cm (cq_o tx pt ts ss) (m := x.toInt.toNat + 1) (n := (g.toInt + 1).toNat) (by omega)
        have e : x = nI x.toInt.toNat := cq_nat (by omega)
        have key : wpX_occursAt (fun r_2 => (r_2 = 0 → ∀ y, y = x + 1 → wX_occurrencesFrom_5 post g (nI ts) cI wI (nI ss) tx cd wh sz pt (d + 1) (nI f) y) ∧ (¬ r_2 = 0 → ∀ y, y = nI f + 1 → ∀ z, z = x + 1 → wX_occurrencesFrom_5 post g (nI ts) cI wI (nI ss) tx cd wh sz pt (d + 1) y z)) (nI ts, cI, wI, nI ss, tx, cd, wh, sz, pt) (nI x.toInt.toNat) := by
          refine cx_oc (by omega) ht hs ?_
          cases hb : cq_o tx pt ts ss x.toInt.toNat with
          | false =>
            refine br_t rfl (nm_e (ih (x + 1) f (by omega) (by omega) ?_))
            rw [h1, show (x.toInt + 1).toNat = x.toInt.toNat + 1 by omega, cq_Cf hb]
            exact hP
          | true =>
            rw [cq_Ct hb] at hm
            refine br_f (by decide) (nm_r (nI_1 f) (nm_e (ih (x + 1) (f + 1) (by omega) (by omega) ?_)))
            rw [h1, show (x.toInt + 1).toNat = x.toInt.toNat + 1 by omega, cq_Ct hb]
            rw [show f + 1 + (cq_C (cq_o tx pt ts ss) (g.toInt + 1).toNat - (cq_C (cq_o tx pt ts ss) x.toInt.toNat + 1)) = f + (cq_C (cq_o tx pt ts ss) (g.toInt + 1).toNat - cq_C (cq_o tx pt ts ss) x.toInt.toNat) by omega]
            exact hP
        rw [← e] at key
        exact key
theorem cx_ofW {post : Int32 → Prop} {x g : Int32} (hg : -10 ≤ g.toInt ∧ g.toInt ≤ 260) (hx : -10 ≤ x.toInt ∧ x.toInt ≤ 260) (ht : ts ≤ 250) (hs : ss ≤ 6)
    (hP : post (nI (cq_C (cq_o tx pt ts ss) (g.toInt + 1).toNat - cq_C (cq_o tx pt ts ss) x.toInt.toNat))) :
    wpX_occurrencesFrom post (nI ts, cI, wI, nI ss, tx, cd, wh, sz, pt) x g :=
  ⟨_, cx_of hg ht hs _ x 0 rfl (by omega) (by rw [Nat.zero_add]; exact hP)⟩
theorem cy_bt {post : Int32 → Prop} {t : Nat} (h : t ≤ 250) (ht : ts ≤ 250) (hs : ss ≤ 6) :
    ∀ d p f : Nat, t + 1 - (p + ss) = d → p ≤ 300 →
      post (nI (f + (cq_C (cq_o tx pt ts ss) (t + 1 - ss) - cq_C (cq_o tx pt ts ss) p))) →
      wY_between_5 post (nI t) (nI ts) cI wI (nI ss) tx bg wh lg pt (d + 1) (nI f) (nI p) := by
  intro d
  induction d with
  | zero =>
    intro p f hd hp hP
    have hm := cq_Cm (cq_o tx pt ts ss) (m := t + 1 - ss) (n := p) (by omega)
    rw [Nat.sub_eq_zero_of_le hm] at hP
    have h2 : nI t < nI p + nI ss := by rw [nI_add]; exact nI_lt (by omega) (by omega)
    exact br_t h2 hP
  | succ d ih =>
    intro p f hd hp hP
    have h2 : ¬ nI t < nI p + nI ss := by rw [nI_add]; exact nI_nlt (by omega) (by omega)
    have hm := cq_Cm (cq_o tx pt ts ss) (m := p + 1) (n := t + 1 - ss) (by omega)
    refine br_f h2 (cy_at (by omega) ht hs ?_)
    cases hb : cq_o tx pt ts ss p with
    | false =>
      refine br_t rfl (nm_r (Int32.add_zero _) (nm_r (nI_1 p) (ih (p + 1) f (by omega) (by omega) ?_)))
      rw [cq_Cf hb]
      exact hP
    | true =>
      rw [cq_Ct hb] at hm
      refine br_f (by decide) (nm_r (nI_1 f) (nm_r (nI_1 p) (ih (p + 1) (f + 1) (by omega) (by omega) ?_)))
      rw [cq_Ct hb]
      rw [show f + 1 + (cq_C (cq_o tx pt ts ss) (t + 1 - ss) - (cq_C (cq_o tx pt ts ss) p + 1)) = f + (cq_C (cq_o tx pt ts ss) (t + 1 - ss) - cq_C (cq_o tx pt ts ss) p) by omega]
      exact hP
theorem cy_btW {post : Int32 → Prop} {p t : Nat} (h : t ≤ 250) (hp : p ≤ 250) (ht : ts ≤ 250) (hs : ss ≤ 6)
    (hP : post (nI (cq_C (cq_o tx pt ts ss) (t + 1 - ss) - cq_C (cq_o tx pt ts ss) p))) :
    wpY_between post (nI ts, cI, wI, nI ss, tx, bg, wh, lg, pt) (nI p) (nI t) :=
  ⟨_, cy_bt h ht hs _ p 0 rfl (by omega) (by rw [Nat.zero_add]; exact hP)⟩
end
