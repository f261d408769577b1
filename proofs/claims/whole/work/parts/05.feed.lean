/-! feed: what X's methods and Y's loop do with an allowed code -/
section
variable {ts cc wc j q n st : Nat} {cI wI sI : Int32} {tx cd wh sz pt bg lg : Nat → Int32}
theorem cx_mw1 {post : Int32 → Prop} (hc : 0 < cc) (hc' : cc ≤ 250) (hw : wc < 60) (hP : post 1) : wpX_makesWord post (nI ts, nI cc, nI wc, sI, tx, cd, wh, sz, pt) := by
  have h1 : ¬ nI cc ≤ 0 := nI_nle hc (by omega)
  have h2 : ¬ (60 : Int32) ≤ nI wc := nI_ge (b := 60) hw (by decide)
  exact br_f h1 (br_f h2 hP)
theorem cx_mw0 {post : Int32 → Prop} (h : cc = 0 ∨ 60 ≤ wc) (hc' : cc ≤ 250) (hw : wc ≤ 60) (hP : post 0) : wpX_makesWord post (nI ts, nI cc, nI wc, sI, tx, cd, wh, sz, pt) := by
  by_cases h0 : cc = 0
  · subst h0
    exact br_t (by decide) hP
  · have h1 : ¬ nI cc ≤ 0 := nI_nle (by omega) (by omega)
    have h2 : (60 : Int32) ≤ nI wc := nI_le (a := 60) (by omega) (by omega)
    exact br_f h1 (br_t h2 hP)
theorem cx_gc1 {post : Int32 → Prop} (hc : 0 < cc) (hc' : cc ≤ 250) (hw : wc < 60) (hP : post (nI wc)) : wpX_greatestCode post (nI ts, nI cc, nI wc, sI, tx, cd, wh, sz, pt) := by
  unfold wpX_greatestCode
  dsimp only
  exact cx_mw1 hc hc' hw (br_f (by decide) hP)
theorem cx_gc0 {post : Int32 → Prop} (h : cc = 0 ∨ 60 ≤ wc) (hc' : cc ≤ 250) (hw : wc ≤ 60) (h4 : 4 ≤ wc) (hP : post (nI (wc - 1))) : wpX_greatestCode post (nI ts, nI cc, nI wc, sI, tx, cd, wh, sz, pt) := by
  have e : nI wc - 1 = nI (wc - 1) := pk_sub (a := wc) (b := 1) (by omega)
  unfold wpX_greatestCode
  dsimp only
  refine cx_mw0 h hc' hw (br_t rfl ?_)
  rw [e]; exact hP
theorem cx_lc {post : Int32 → Prop} (hc : 0 < cc) (hc' : cc ≤ 250) (hd : cd (cc - 1) = nI st) (hst : st ≤ ts) (hP : post (nI (ts - st))) : wpX_lastCodeSize post (nI ts, nI cc, wI, sI, tx, cd, wh, sz, pt) := by
  have h1 : ¬ nI cc ≤ 0 := nI_nle hc (by omega)
  have e : nI cc - 1 = nI (cc - 1) := pk_sub (a := cc) (b := 1) (by omega)
  have h2 : vp_in (nI cc - 1) 250 := by rw [e]; exact vp_in_nI (by omega) (by omega)
  have h3 : nI ts - cd (nI cc - 1).toNatClampNeg = nI (ts - st) := by rw [e, cq_ci (by omega), hd, pk_sub hst]
  refine br_f h1 ⟨h2, ?_⟩
  rw [h3]; exact hP
theorem cx_aw0 {post : SX → Prop} (h : cc = 0 ∨ 60 ≤ wc) (hc' : cc ≤ 250) (hw : wc ≤ 60) (hP : post (nI ts, nI cc, nI wc, sI, tx, cd, wh, sz, pt)) : wpX_addWord post (nI ts, nI cc, nI wc, sI, tx, cd, wh, sz, pt) := by
  unfold wpX_addWord
  dsimp only
  exact cx_mw0 h hc' hw (br_t rfl hP)
theorem cx_aw1 {post : SX → Prop} (hc : 0 < cc) (hc' : cc ≤ 250) (hw : wc < 60) (hd : cd (cc - 1) = nI st) (hst : st ≤ ts)
    (hP : post (nI ts, nI cc, nI (wc + 1), sI, tx, cd, upd wh wc (nI st), upd sz wc (nI (ts - st + 1)), pt)) : wpX_addWord post (nI ts, nI cc, nI wc, sI, tx, cd, wh, sz, pt) := by
  have e : nI cc - 1 = nI (cc - 1) := pk_sub (a := cc) (b := 1) (by omega)
  have h2 : vp_in (nI cc - 1) 250 := by rw [e]; exact vp_in_nI (by omega) (by omega)
  have h3 : vp_in (nI wc) 60 := vp_in_nI hw (by omega)
  have h4 : cd (nI cc - 1).toNatClampNeg = nI st := by rw [e, cq_ci (by omega), hd]
  have h5 : (nI wc).toNatClampNeg = wc := cq_ci (by omega)
  unfold wpX_addWord
  dsimp only
  refine cx_mw1 hc hc' hw (br_f (by decide) ⟨h2, h3, ?_⟩)
  rw [h4, h5]
  refine nm_e (cx_lc hc hc' hd hst ⟨h3, ?_⟩)
  exact nm_r (by rw [nI_1]) (nm_r (nI_1 wc) hP)
theorem cx_sw {post : Int32 → Prop} {i : Nat} (hj : j < 60) (hq : 4 ≤ j → wh j = nI q ∧ q + i < 250) (hP : post (if j < 4 then nI j else tx (q + i))) :
    wpX_symbolOfWord post (nI ts, cI, wI, sI, tx, cd, wh, sz, pt) (nI j) (nI i) := by
  by_cases h4 : 4 ≤ j
  · obtain ⟨hw, hb⟩ := hq h4
    have h1 : (4 : Int32) ≤ nI j := nI_le (a := 4) h4 (by omega)
    have h5 : (nI j).toNatClampNeg = j := cq_ci (by omega)
    have h6 : wh (nI j).toNatClampNeg + nI i = nI q + nI i := by rw [h5, hw]
    refine br_t h1 ⟨vp_in_nI hj (by omega), ?_, ?_⟩
    · rw [h6]; exact cq_vi hb (by omega)
    · rw [h6, cq_ix (by omega)]
      rw [if_neg (by omega)] at hP
      exact hP
  · have h1 : ¬ (4 : Int32) ≤ nI j := nI_ge (b := 4) (by omega) (by decide)
    rw [if_pos (by omega)] at hP
    exact br_f h1 hP
theorem cx_apL {post : SX → Prop} (hj : j < 60) (hq : 4 ≤ j → wh j = nI q ∧ q + n ≤ ts + 1) (ht : ts + n ≤ 250) (hc : cc < 250)
    (hP : post (nI (ts + n), nI (cc + 1), wI, sI, cq_fl j q ts tx n, upd cd cc (nI ts), wh, sz, pt)) :
    ∀ d i : Nat, i + d = n → wX_appendWord_15 post (nI j) (nI ts) (nI n) (nI ts) (nI cc) wI sI (d + 1) (nI i) (cq_fl j q ts tx i) cd wh sz pt := by
  intro d
  induction d with
  | zero =>
    intro i hi
    have e : i = n := by omega
    subst e
    have h5 : (nI cc).toNatClampNeg = cc := cq_ci (by omega)
    refine br_t (nI_le (by omega) (by omega)) ⟨vp_in_nI hc (by omega), ?_⟩
    rw [h5]
    exact nm_e (nm_r (nI_1 cc) (nm_r (nI_add ts i) hP))
  | succ d ih =>
    intro i hi
    have h6 : (nI ts + nI i).toNatClampNeg = ts + i := cq_ix (by omega)
    refine br_f (nI_ge (by omega) (by omega)) (cx_sw (q := q) hj (fun h4 => ⟨(hq h4).1, by have := (hq h4).2; omega⟩) ⟨cq_vi (by omega) (by omega), ?_⟩)
    rw [h6]
    exact nm_e (nm_r (nI_1 i) (ih (i + 1) (by omega)))
theorem cx_ap {post : SX → Prop} (hj : j < 60) (hz : sz j = nI n) (hq : 4 ≤ j → wh j = nI q ∧ q + n ≤ ts + 1) (ht : ts + n ≤ 250) (hc : cc < 250)
    (hP : post (nI (ts + n), nI (cc + 1), wI, sI, cq_fl j q ts tx n, upd cd cc (nI ts), wh, sz, pt)) :
    wpX_appendWord post (nI ts, nI cc, wI, sI, tx, cd, wh, sz, pt) (nI j) := by
  have h5 : sz (nI j).toNatClampNeg = nI n := by rw [cq_ci (by omega), hz]
  exact ⟨vp_in_nI hj (by omega), nm_r h5 ⟨n + 1, cx_apL hj hq ht hc hP n 0 (by omega)⟩⟩
theorem cx_f37 {post : Int32 → SX → Prop} (ht : ts + n ≤ 250) (H : wpX_addWord (fun u => wpX_appendWord (fun u => post (nI n) u) u (nI j)) (nI ts, nI cc, nI wc, sI, tx, cd, wh, sz, pt)) :
    wX_feed_37 post (nI j) (nI n) (nI ts) (nI cc) (nI wc) sI tx cd wh sz pt := by
  have h : nI n ≤ 250 - nI ts := by
    rw [show (250 : Int32) = nI 250 from rfl, pk_sub (by omega)]; exact nI_le (by omega) (by omega)
  exact br_t h H
theorem cx_f37n {post : Int32 → SX → Prop} (h0 : ts ≤ 250) (hn : n ≤ 1000) (ht : 250 < ts + n) (H : post (-1) (nI ts, nI cc, nI wc, sI, tx, cd, wh, sz, pt)) :
    wX_feed_37 post (nI j) (nI n) (nI ts) (nI cc) (nI wc) sI tx cd wh sz pt := by
  have h : ¬ nI n ≤ 250 - nI ts := by
    rw [show (250 : Int32) = nI 250 from rfl, pk_sub (by omega)]; exact nI_ge (by omega) (by omega)
  exact br_f h H
theorem cx_fw {post : Int32 → SX → Prop} {g : Nat} (hG : ∀ P : Int32 → Prop, P (nI g) → wpX_greatestCode P (nI ts, nI cc, nI wc, sI, tx, cd, wh, sz, pt)) (hj : j ≤ g) (hg : g ≤ 60) (hwc : wc ≤ 60) (hc' : cc ≤ 250)
    (hA : j < wc → sz j = nI n) (hB : wc ≤ j → 0 < cc ∧ cd (cc - 1) = nI st ∧ st ≤ ts ∧ n = ts - st + 1)
    (H : wX_feed_37 post (nI j) (nI n) (nI ts) (nI cc) (nI wc) sI tx cd wh sz pt) : wpX_feed post (nI ts, nI cc, nI wc, sI, tx, cd, wh, sz, pt) (nI j) := by
  refine br_f (nI_pos (by omega)) (hG _ (br_t (nI_le hj (by omega)) ?_))
  by_cases h : wc ≤ j
  · obtain ⟨h0, h1, h2, h3⟩ := hB h
    refine br_t (nI_le h (by omega)) (cx_lc h0 hc' h1 h2 ?_)
    rw [h3] at H
    rw [nI_1]
    exact H
  · have h5 : sz (nI j).toNatClampNeg = nI n := by rw [cq_ci (by omega), hA (by omega)]
    refine br_f (nI_ge (by omega) (by omega)) ⟨vp_in_nI (by omega) (by omega), ?_⟩
    rw [h5]; exact H
theorem cx_fr {post : Int32 → SX → Prop} {g : Nat} (hG : ∀ P : Int32 → Prop, P (nI g) → wpX_greatestCode P (nI ts, nI cc, nI wc, sI, tx, cd, wh, sz, pt)) (hj : g < j) (hj' : j < 2 ^ 31)
    (H : post (-1) (nI ts, nI cc, nI wc, sI, tx, cd, wh, sz, pt)) : wpX_feed post (nI ts, nI cc, nI wc, sI, tx, cd, wh, sz, pt) (nI j) :=
  br_f (nI_pos hj') (hG _ (br_f (nI_ge hj hj') H))
theorem cy_222 {post : Int32 → SY → Prop} (hc : cc < 250) (hP : post (nI n) (nI (ts + n), nI (cc + 1), wI, sI, tx, upd (upd bg cc (nI ts)) (cc + 1) (nI (ts + n)), wh, lg, pt)) :
    wY_feed_222 post (nI n) (nI ts) (nI (ts + n)) (nI cc) wI sI tx bg wh lg pt := by
  have h1 : (nI cc).toNatClampNeg = cc := cq_ci (by omega)
  have h2 : (nI (cc + 1)).toNatClampNeg = cc + 1 := cq_ci (by omega)
  refine ⟨vp_in_nI (by omega) (by omega), ?_⟩
  rw [h1]
  refine nm_e (nm_r (nI_1 cc) ⟨vp_in_nI (by omega) (by omega), ?_⟩)
  rw [h2]
  exact nm_e hP
theorem cy_e0 {post : Int32 → SY → Prop} {x1 x2 : Int32} {m : Nat} (h : cc = 0 ∨ 60 ≤ wc) (hw : wc ≤ 60) (hn : n ≤ 250) (hc : cc < 250)
    (hP : post (nI n) (nI (ts + n), nI (cc + 1), nI wc, sI, tx, upd (upd bg cc (nI ts)) (cc + 1) (nI (ts + n)), wh, lg, pt)) :
    wY_feed_114 post x1 x2 (nI n) (nI ts) (nI ts) (nI cc) (nI wc) sI (m + 1) (nI n) tx bg wh lg pt := by
  refine br_t (nI_le (Nat.le_refl n) (by omega)) (nm_r (nI_add ts n) ?_)
  by_cases h0 : cc = 0
  · subst h0
    exact br_t (by decide) (cy_222 hc hP)
  · have h1 : ¬ nI cc ≤ 0 := nI_nle (by omega) (by omega)
    have h2 : (60 : Int32) ≤ nI wc := nI_le (a := 60) (by omega) (by omega)
    exact br_f h1 (br_t h2 (cy_222 hc hP))
theorem cy_e1 {post : Int32 → SY → Prop} {x1 : Int32} {m : Nat} (h0 : 0 < cc) (hw : wc < 60) (hn : n ≤ 250) (hc : cc < 250) (hst : st ≤ ts)
    (hP : post (nI n) (nI (ts + n), nI (cc + 1), nI (wc + 1), sI, tx, upd (upd bg cc (nI ts)) (cc + 1) (nI (ts + n)), upd wh wc (nI st), upd lg wc (nI (ts - st + 1)), pt)) :
    wY_feed_114 post x1 (nI st) (nI n) (nI ts) (nI ts) (nI cc) (nI wc) sI (m + 1) (nI n) tx bg wh lg pt := by
  have h1 : ¬ nI cc ≤ 0 := nI_nle h0 (by omega)
  have h2 : ¬ (60 : Int32) ≤ nI wc := nI_ge (b := 60) hw (by decide)
  have h3 : vp_in (nI wc) 60 := vp_in_nI hw (by omega)
  have h5 : (nI wc).toNatClampNeg = wc := cq_ci (by omega)
  have h6 : nI ts - nI st + 1 = nI (ts - st + 1) := by rw [pk_sub hst, nI_1]
  refine br_t (nI_le (Nat.le_refl n) (by omega)) (nm_r (nI_add ts n) (br_f h1 (br_f h2 ⟨h3, ?_⟩)))
  rw [h5]
  refine nm_e ⟨h3, ?_⟩
  rw [h6]
  exact nm_e (nm_r (nI_1 wc) (cy_222 hc hP))
theorem cy_sw {post : Int32 → Prop} {i : Nat} (hj : j < 60) (hq : 4 ≤ j → wh j = nI q ∧ q + i < 250) (hP : post (if j < 4 then nI j else tx (q + i))) :
    wpY_symbolOf post (nI ts, cI, wI, sI, tx, bg, wh, lg, pt) (nI j) (nI i) := by
  by_cases h4 : 4 ≤ j
  · obtain ⟨hw, hb⟩ := hq h4
    have h1 : (4 : Int32) ≤ nI j := nI_le (a := 4) h4 (by omega)
    have h5 : (nI j).toNatClampNeg = j := cq_ci (by omega)
    have h6 : wh (nI j).toNatClampNeg + nI i = nI q + nI i := by rw [h5, hw]
    refine br_t h1 ⟨vp_in_nI hj (by omega), ?_, ?_⟩
    · rw [h6]; exact cq_vi hb (by omega)
    · rw [h6, cq_ix (by omega)]
      rw [if_neg (by omega)] at hP
      exact hP
  · have h1 : ¬ (4 : Int32) ≤ nI j := nI_ge (b := 4) (by omega) (by decide)
    rw [if_pos (by omega)] at hP
    exact br_f h1 hP
theorem cy_L {post : Int32 → SY → Prop} (hw : wc ≤ 60) (h4 : 4 ≤ wc) (hjw : j ≤ wc) (hq : 4 ≤ j → j < wc → wh j = nI q) (hqs : wc ≤ j → q = st) (hb : 4 ≤ j → q + n ≤ ts + 1) (ht : ts + n ≤ 250)
    (hE : wY_feed_114 post (nI j) (nI st) (nI n) (nI ts) (nI ts) cI (nI wc) sI 1 (nI n) (cq_fl j q ts tx n) bg wh lg pt) :
    ∀ d i : Nat, i + d = n → wY_feed_114 post (nI j) (nI st) (nI n) (nI ts) (nI ts) cI (nI wc) sI (d + 1) (nI i) (cq_fl j q ts tx i) bg wh lg pt := by
  intro d
  induction d with
  | zero =>
    intro i hi
    have e : i = n := by omega
    subst e
    exact hE
  | succ d ih =>
    intro i hi
    have h6 : (nI ts + nI i).toNatClampNeg = ts + i := cq_ix (by omega)
    have h7 : vp_in (nI ts + nI i) 250 := cq_vi (by omega) (by omega)
    refine br_f (nI_ge (by omega) (by omega)) ?_
    by_cases h : wc ≤ j
    · have e := hqs h
      have hb' := hb (by omega)
      have h8 : (nI st + nI i).toNatClampNeg = st + i := cq_ix (by omega)
      have h9 : vp_in (nI st + nI i) 250 := cq_vi (by omega) (by omega)
      refine br_t (nI_le h (by omega)) ⟨h9, h7, ?_⟩
      rw [h6, h8]
      have := ih (i + 1) (by omega)
      rw [cq_fl, if_neg (by omega), e] at this
      rw [e]
      exact nm_e (nm_r (nI_1 i) this)
    · refine br_f (nI_ge (by omega) (by omega)) (cy_sw (q := q) (by omega) (fun h4 => ⟨hq h4 (by omega), by have := hb h4; omega⟩) ⟨h7, ?_⟩)
      rw [h6]
      exact nm_e (nm_r (nI_1 i) (ih (i + 1) (by omega)))
theorem cy_f90 {post : Int32 → SY → Prop} (hw : wc ≤ 60) (h4 : 4 ≤ wc) (hjw : j ≤ wc) (hq : 4 ≤ j → j < wc → wh j = nI q) (hqs : wc ≤ j → q = st) (hb : 4 ≤ j → q + n ≤ ts + 1) (ht : ts + n ≤ 250)
    (hE : wY_feed_114 post (nI j) (nI st) (nI n) (nI ts) (nI ts) cI (nI wc) sI 1 (nI n) (cq_fl j q ts tx n) bg wh lg pt) :
    wY_feed_90 post (nI j) (nI st) (nI n) (nI ts) cI (nI wc) sI tx bg wh lg pt := by
  have h : nI ts + nI n ≤ 250 := by
    rw [show (250 : Int32) = nI 250 from rfl, nI_add]; exact nI_le ht (by omega)
  exact br_t h ⟨n + 1, cy_L hw h4 hjw hq hqs hb ht hE n 0 (by omega)⟩
theorem cy_f90n {post : Int32 → SY → Prop} (h0 : ts ≤ 250) (hn : n ≤ 1000) (ht : 250 < ts + n) (H : post (-1) (nI ts, cI, wI, sI, tx, bg, wh, lg, pt)) :
    wY_feed_90 post (nI j) (nI st) (nI n) (nI ts) cI wI sI tx bg wh lg pt := by
  have h : ¬ nI ts + nI n ≤ 250 := by
    rw [show (250 : Int32) = nI 250 from rfl, nI_add]; exact nI_ge ht (by omega)
  exact br_f h H
theorem cy_fw {post : Int32 → SY → Prop} (h0 : cc = 0 → j ≤ 3) (h1 : j ≤ wc) (h2 : j = wc → wc ≠ 60) (hw : wc ≤ 60) (hc' : cc ≤ 250) (hs : 0 < cc → bg (cc - 1) = nI st) (hs0 : cc = 0 → st = 0)
    (hA : j < wc → (j < 4 → n = 1) ∧ (4 ≤ j → lg j = nI n)) (hB : wc ≤ j → st ≤ ts ∧ n = ts - st + 1)
    (H : wY_feed_90 post (nI j) (nI st) (nI n) (nI ts) (nI cc) (nI wc) sI tx bg wh lg pt) : wpY_feed post (nI ts, nI cc, nI wc, sI, tx, bg, wh, lg, pt) (nI j) := by
  have k65 : wY_feed_65 post (nI j) (nI st) (nI ts) (nI cc) (nI wc) sI tx bg wh lg pt := by
    by_cases h : wc ≤ j
    · obtain ⟨a, b⟩ := hB h
      refine br_t (nI_le h (by omega)) ?_
      rw [pk_sub a, nI_1, ← b]
      exact H
    · obtain ⟨a, b⟩ := hA (by omega)
      refine br_f (nI_ge (by omega) (by omega)) ?_
      by_cases h4 : 4 ≤ j
      · have e : lg (nI j).toNatClampNeg = nI n := by rw [cq_ci (by omega), b h4]
        refine br_t (nI_le (a := 4) h4 (by omega)) ⟨vp_in_nI (by omega) (by omega), ?_⟩
        rw [e]; exact H
      · have e := a (by omega)
        subst e
        exact br_f (nI_ge (b := 4) (by omega) (by decide)) H
  have k43 : wY_feed_43 post (nI j) (nI ts) (nI cc) (nI wc) sI tx bg wh lg pt := by
    by_cases h : cc = 0
    · have e := hs0 h
      subst e
      subst h
      exact br_t (by decide) k65
    · have e : nI cc - 1 = nI (cc - 1) := pk_sub (a := cc) (b := 1) (by omega)
      have e2 : bg (nI cc - 1).toNatClampNeg = nI st := by rw [e, cq_ci (by omega), hs (by omega)]
      refine br_f (nI_nle (by omega) (by omega)) ⟨?_, ?_⟩
      · rw [e]; exact vp_in_nI (by omega) (by omega)
      · rw [e2]; exact k65
  have k16 : wY_feed_16 post (nI j) (nI ts) (nI cc) (nI wc) sI tx bg wh lg pt := by
    refine br_f (nI_nlt h1 (by omega)) ?_
    by_cases h : j = wc
    · refine br_t (by rw [h]) (br_f (fun z => ?_) k43)
      exact h2 h ((nI_eq (b := 60) (by omega) (by decide)).mp z)
    · exact br_f (fun z => h ((nI_eq (by omega) (by omega)).mp z)) k43
  refine br_f (nI_pos (by omega)) ?_
  by_cases h : cc = 0
  · refine br_t (by rw [h]; exact nI_0) (br_f ?_ k16)
    exact nI_nlt (a := 3) (h0 h) (by decide)
  · exact br_f (nI_ne0 (by omega) (by omega)) k16
theorem cy_fr {post : Int32 → SY → Prop} (hj' : j < 2 ^ 31) (hw : wc ≤ 60) (hc' : cc ≤ 250) (h : (cc = 0 ∧ 3 < j) ∨ (0 < cc ∧ (wc < j ∨ (j = wc ∧ wc = 60))))
    (H : post (-1) (nI ts, nI cc, nI wc, sI, tx, bg, wh, lg, pt)) : wpY_feed post (nI ts, nI cc, nI wc, sI, tx, bg, wh, lg, pt) (nI j) := by
  refine br_f (nI_pos hj') ?_
  rcases h with ⟨h0, h3⟩ | ⟨h0, h3⟩
  · exact br_t (by rw [h0]; exact nI_0) (br_t (nI_lt (a := 3) h3 hj') H)
  · refine br_f (nI_ne0 (by omega) (by omega)) ?_
    rcases h3 with h3 | ⟨h3, h4⟩
    · exact br_t (nI_lt h3 hj') H
    · exact br_f (nI_nlt (by omega) (by omega)) (br_t (by rw [h3]) (br_t (by rw [h4]; rfl) H))
end
