/-! what is owed -/
def i_Rel (_ : Nat) (u : SX) (v : SY) : Prop := ∃ (ts cc wc ss : Nat) (cs ws wl : Nat → Nat) (tx cd bg wh sz lg pt : Nat → Int32),
  u = (nI ts, nI cc, nI wc, nI ss, tx, cd, wh, sz, pt) ∧ v = (nI ts, nI cc, nI wc, nI ss, tx, bg, wh, lg, pt) ∧ cq_N ts cc wc ss ∧ cq_K ts cc cs cd bg ∧ cq_D ts wc ws wl wh sz lg
theorem i_up {k : Nat} {u : SX} {v : SY} (h : i_Rel k u v) : i_Rel (k + 3) u v := h
theorem cz_init {post : SX → Prop} {f1 f2 f3 f4 : Int32} {a1 a2 a3 a5 : Nat → Int32} (hP : ∀ sz : Nat → Int32, (∀ w, w < 4 → sz w = 1) → post (f1, f2, 4, f4, a1, a2, a3, sz, a5)) :
    ∀ (d i : Nat) (sz : Nat → Int32), i + d = 4 → (∀ w, w < i → sz w = 1) → wX_init_48 post f1 f2 f3 f4 (d + 1) (nI i) a1 a2 a3 sz a5 := by
  intro d
  induction d with
  | zero =>
    intro i sz hi he
    have e : i = 4 := by omega
    subst e
    exact br_t (by decide) (hP sz he)
  | succ d ih =>
    intro i sz hi he
    have h5 : (nI i).toNatClampNeg = i := cq_ci (by omega)
    refine br_f (nI_ge (b := 4) (by omega) (by decide)) ⟨vp_in_nI (by omega) (by omega), ?_⟩
    rw [h5]
    refine nm_e (nm_r (nI_1 i) (ih (i + 1) (upd sz i 1) (by omega) (fun w hw => ?_)))
    by_cases e : w = i
    · rw [e, pk_us]
    · rw [pk_un e]; exact he w (by omega)
theorem i_vc0 : wpX_init (fun u => wpY_init (fun v => i_Rel 0 u v)) :=
  ⟨5, cz_init (f3 := 0) (fun sz hz => ⟨0, 0, 4, 0, fun _ => 0, fun _ => 0, fun _ => 0, fun _ => 0, fun _ => 0, fun _ => 0, fun _ => 0, sz, fun _ => 0, fun _ => 0, rfl, rfl,
    ⟨by omega, by omega, by omega, by omega, by omega, fun _ => rfl⟩, ⟨rfl, rfl, fun i hi => absurd hi (Nat.not_lt_zero i), fun i hi => absurd hi (Nat.not_lt_zero i), fun _ _ => rfl⟩, ⟨hz, fun w h4 hw => absurd hw (by omega)⟩⟩) 4 0 (fun _ => 0) rfl (fun w hw => absurd hw (Nat.not_lt_zero w))⟩
theorem i_vc_restart {k : Nat} {u : SX} {v : SY} (I : i_Rel k u v) (hk : k + 3 ≤ 1536) : wpX_restart (fun u' => wpY_restart (fun v' => i_Rel (k + 3) u' v') v) u := by
  obtain ⟨ts, cc, wc, ss, cs, ws, wl, tx, cd, bg, wh, sz, lg, pt, rfl, rfl, N, K, D⟩ := I
  exact ⟨0, 0, 4, ss, cs, ws, wl, tx, cd, bg, wh, sz, lg, pt, rfl, rfl, ⟨by omega, by omega, by omega, by omega, N.2.2.2.2.1, fun _ => rfl⟩, cq_K0 K, cq_D0 D⟩
theorem i_vc_extend {k : Nat} {u : SX} {v : SY} (I : i_Rel k u v) (hk : k + 3 ≤ 1536) (v1 : Int32) : wpX_extend (fun r u' => wpY_extend (fun r' v' => r' = r ∧ i_Rel (k + 3) u' v') v v1) u v1 := by
  have J := I
  obtain ⟨ts, cc, wc, ss, cs, ws, wl, tx, cd, bg, wh, sz, lg, pt, rfl, rfl, N, K, D⟩ := I
  obtain ⟨n1, n2, n3, n4, n5, n6⟩ := N
  unfold wpX_extend
  dsimp only
  by_cases c0 : v1 < 0
  · exact br_t c0 (br_t rfl (br_t c0 ⟨rfl, J⟩))
  · obtain ⟨j, hj, rfl⟩ := nI_of c0
    by_cases c1 : 4 ≤ j
    · have a1 : (4 : Int32) ≤ nI j := nI_le (a := 4) c1 hj
      have a2 : (3 : Int32) < nI j := nI_lt (a := 3) (by omega) hj
      exact br_f c0 (br_t a1 (br_t rfl (br_f c0 (br_t a2 ⟨rfl, J⟩))))
    · have a1 : ¬ (4 : Int32) ≤ nI j := nI_ge (b := 4) (by omega) (by decide)
      have a2 : ¬ (3 : Int32) < nI j := nI_nlt (a := 3) (by omega) (by decide)
      by_cases c2 : ss < 6
      · have a3 : nI ss < (6 : Int32) := nI_lt (b := 6) c2 (by decide)
        have a4 : vp_in (nI ss) 6 := vp_in_nI c2 (by omega)
        refine br_f c0 (br_f a1 (br_f (by decide) (br_t a3 ⟨a4, nm_e (nm_r (nI_1 ss) (br_f c0 (br_f a2 (br_t a3 ⟨a4, nm_e (nm_r (nI_1 ss) ⟨rfl, ?_⟩)⟩))))⟩)))
        exact ⟨ts, cc, wc, ss + 1, cs, ws, wl, tx, cd, bg, wh, sz, lg, _, rfl, rfl, ⟨n1, n2, n3, n4, by omega, n6⟩, K, D⟩
      · have a3 : ¬ nI ss < (6 : Int32) := nI_nlt (b := 6) (by omega) (by omega)
        exact br_f c0 (br_f a1 (br_f (by decide) (br_f a3 (br_f c0 (br_f a2 (br_f a3 ⟨rfl, J⟩))))))
theorem i_vc_shorten {k : Nat} {u : SX} {v : SY} (I : i_Rel k u v) (hk : k + 3 ≤ 1536) : wpX_shorten (fun r u' => wpY_shorten (fun r' v' => r' = r ∧ i_Rel (k + 3) u' v') v) u := by
  have J := I
  obtain ⟨ts, cc, wc, ss, cs, ws, wl, tx, cd, bg, wh, sz, lg, pt, rfl, rfl, N, K, D⟩ := I
  obtain ⟨n1, n2, n3, n4, n5, n6⟩ := N
  by_cases c0 : ss = 0
  · subst c0
    exact br_t nI_0 (br_t nI_0 ⟨rfl, J⟩)
  · have a0 : ¬ nI ss = 0 := nI_ne0 (by omega) (by omega)
    obtain ⟨pt', hX, hY⟩ := cz_short (ts := ts) (cI := nI cc) (wI := nI wc) (tx := tx) (cd := cd) (wh := wh) (sz := sz) (bg := bg) (lg := lg) (pt 0) n5 (ss - 1) 1 pt (by omega) (by omega)
    refine br_f a0 (nm_e ⟨_, hX _ (br_f a0 (nm_e ⟨_, hY _ ⟨rfl, ?_⟩⟩))⟩)
    exact ⟨ts, cc, wc, ss - 1, cs, ws, wl, tx, cd, bg, wh, sz, lg, pt', rfl, rfl, ⟨n1, n2, n3, n4, by omega, n6⟩, K, D⟩
theorem i_vc_pattern {k : Nat} {u : SX} {v : SY} (I : i_Rel k u v) (hk : k + 3 ≤ 1536) : wpX_pattern (fun r => wpY_pattern (fun r' => r' = r ∧ i_Rel (k + 3) u v) v) u := by
  have J := I
  obtain ⟨ts, cc, wc, ss, cs, ws, wl, tx, cd, bg, wh, sz, lg, pt, rfl, rfl, N, K, D⟩ := I
  exact ⟨rfl, J⟩
theorem i_vc_codes {k : Nat} {u : SX} {v : SY} (I : i_Rel k u v) (hk : k + 3 ≤ 1536) : wpX_codes (fun r => wpY_codes (fun r' => r' = r ∧ i_Rel (k + 3) u v) v) u := by
  have J := I
  obtain ⟨ts, cc, wc, ss, cs, ws, wl, tx, cd, bg, wh, sz, lg, pt, rfl, rfl, N, K, D⟩ := I
  exact ⟨rfl, J⟩
theorem i_vc_words {k : Nat} {u : SX} {v : SY} (I : i_Rel k u v) (hk : k + 3 ≤ 1536) : wpX_words (fun r => wpY_words (fun r' => r' = r ∧ i_Rel (k + 3) u v) v) u := by
  have J := I
  obtain ⟨ts, cc, wc, ss, cs, ws, wl, tx, cd, bg, wh, sz, lg, pt, rfl, rfl, N, K, D⟩ := I
  exact ⟨rfl, J⟩
theorem i_vc_length {k : Nat} {u : SX} {v : SY} (I : i_Rel k u v) (hk : k + 3 ≤ 1536) : wpX_length (fun r => wpY_length (fun r' => r' = r ∧ i_Rel (k + 3) u v) v) u := by
  have J := I
  obtain ⟨ts, cc, wc, ss, cs, ws, wl, tx, cd, bg, wh, sz, lg, pt, rfl, rfl, N, K, D⟩ := I
  exact ⟨rfl, J⟩
theorem i_vc_wordLength {k : Nat} {u : SX} {v : SY} (I : i_Rel k u v) (hk : k + 3 ≤ 1536) (v1 : Int32) : wpX_wordLength (fun r => wpY_wordLength (fun r' => r' = r ∧ i_Rel (k + 3) u v) v v1) u v1 := by
  have J := I
  obtain ⟨ts, cc, wc, ss, cs, ws, wl, tx, cd, bg, wh, sz, lg, pt, rfl, rfl, N, K, D⟩ := I
  obtain ⟨n1, n2, n3, n4, n5, n6⟩ := N
  unfold wpX_wordLength
  dsimp only
  by_cases c0 : v1 < 0
  · exact br_t c0 (br_t rfl (br_t c0 ⟨rfl, J⟩))
  · obtain ⟨j, hj, rfl⟩ := nI_of c0
    by_cases c1 : wc ≤ j
    · exact br_f c0 (br_t (nI_le c1 hj) (br_t rfl (br_f c0 (br_f (nI_nlt c1 hj) ⟨rfl, J⟩))))
    · have a1 : ¬ nI wc ≤ nI j := nI_ge (by omega) (by omega)
      have a2 : nI j < nI wc := nI_lt (by omega) (by omega)
      have a3 : vp_in (nI j) 60 := vp_in_nI (by omega) (by omega)
      have a4 : (nI j).toNatClampNeg = j := cq_ci (by omega)
      by_cases c2 : 4 ≤ j
      · obtain ⟨d1, d2, d3, d4, d5⟩ := D.2 j c2 (by omega)
        have e : lg (nI j).toNatClampNeg = sz (nI j).toNatClampNeg := by rw [a4, d2, d3]
        exact br_f c0 (br_f a1 (br_f (by decide) ⟨a3, br_f c0 (br_t a2 (br_t (nI_le (a := 4) c2 hj) ⟨a3, e, J⟩))⟩))
      · have e : 1 = sz (nI j).toNatClampNeg := by rw [a4, D.1 j (by omega)]
        exact br_f c0 (br_f a1 (br_f (by decide) ⟨a3, br_f c0 (br_t a2 (br_f (nI_ge (b := 4) (by omega) (by decide)) ⟨e, J⟩))⟩))
theorem i_vc_wordSymbol {k : Nat} {u : SX} {v : SY} (I : i_Rel k u v) (hk : k + 3 ≤ 1536) (v1 : Int32) (v2 : Int32) : wpX_wordSymbol (fun r => wpY_wordSymbol (fun r' => r' = r ∧ i_Rel (k + 3) u v) v v1 v2) u v1 v2 := by
  have J := I
  obtain ⟨ts, cc, wc, ss, cs, ws, wl, tx, cd, bg, wh, sz, lg, pt, rfl, rfl, N, K, D⟩ := I
  obtain ⟨n1, n2, n3, n4, n5, n6⟩ := N
  unfold wpX_wordSymbol
  dsimp only
  by_cases c0 : v1 < 0
  · exact br_t c0 (br_t rfl (br_t c0 ⟨rfl, J⟩))
  · obtain ⟨j, hj, rfl⟩ := nI_of c0
    by_cases c1 : wc ≤ j
    · exact br_f c0 (br_t (nI_le c1 hj) (br_t rfl (br_f c0 (br_t (nI_le c1 hj) ⟨rfl, J⟩))))
    · have a1 : ¬ nI wc ≤ nI j := nI_ge (by omega) (by omega)
      have a3 : vp_in (nI j) 60 := vp_in_nI (by omega) (by omega)
      have a4 : (nI j).toNatClampNeg = j := cq_ci (by omega)
      refine br_f c0 (br_f a1 (br_f (by decide) ?_))
      by_cases k0 : v2 < 0
      · exact br_t k0 (br_f c0 (br_f a1 (br_t k0 ⟨rfl, J⟩)))
      · obtain ⟨i, hi, rfl⟩ := nI_of k0
        obtain ⟨l, hl, hlen, hD⟩ : ∃ l : Nat, sz j = nI l ∧ l ≤ 250 ∧ (4 ≤ j → lg j = nI l ∧ wh j = nI (ws j) ∧ ws j + l ≤ 250) ∧ (¬ 4 ≤ j → l = 1) := by
          by_cases c2 : 4 ≤ j
          · obtain ⟨d1, d2, d3, d4, d5⟩ := D.2 j c2 (by omega)
            exact ⟨wl j, d2, by omega, fun _ => ⟨d3, d1, by omega⟩, fun z => absurd c2 z⟩
          · exact ⟨1, D.1 j (by omega), by omega, fun z => absurd z c2, fun _ => rfl⟩
        have e1 : sz (nI j).toNatClampNeg = nI l := by rw [a4, hl]
        have kY : ∀ P : Int32 → Prop, P (nI l) → wpY_lengthOf P (nI ts, nI cc, nI wc, nI ss, tx, bg, wh, lg, pt) (nI j) := by
          intro P hP
          by_cases c2 : 4 ≤ j
          · have e2 : lg (nI j).toNatClampNeg = nI l := by rw [a4, (hD.1 c2).1]
            refine br_t (nI_le (a := 4) c2 hj) ⟨a3, ?_⟩
            rw [e2]; exact hP
          · have e2 := hD.2 c2
            subst e2
            exact br_f (nI_ge (b := 4) (by omega) (by decide)) hP
        refine br_f k0 ⟨a3, ?_⟩
        by_cases k1 : i < l
        · have b1 : nI i < nI l := nI_lt k1 (by omega)
          have b2 : nI i < sz (nI j).toNatClampNeg := by rw [e1]; exact b1
          have hq : 4 ≤ j → wh j = nI (ws j) ∧ ws j + i < 250 := fun z => ⟨(hD.1 z).2.1, by have := (hD.1 z).2.2; omega⟩
          exact br_t b2 (cx_sw (q := ws j) (by omega) hq (br_f c0 (br_f a1 (br_f k0 (kY _ (br_t b1 (cy_sw (q := ws j) (by omega) hq ⟨rfl, J⟩)))))))
        · have b1 : ¬ nI i < nI l := nI_nlt (by omega) hi
          have b2 : ¬ nI i < sz (nI j).toNatClampNeg := by rw [e1]; exact b1
          exact br_f b2 (br_f c0 (br_f a1 (br_f k0 (kY _ (br_f b1 ⟨rfl, J⟩)))))
theorem i_vc_symbol {k : Nat} {u : SX} {v : SY} (I : i_Rel k u v) (hk : k + 3 ≤ 1536) (v1 : Int32) : wpX_symbol (fun r => wpY_symbol (fun r' => r' = r ∧ i_Rel (k + 3) u v) v v1) u v1 := by
  have J := I
  obtain ⟨ts, cc, wc, ss, cs, ws, wl, tx, cd, bg, wh, sz, lg, pt, rfl, rfl, N, K, D⟩ := I
  obtain ⟨n1, n2, n3, n4, n5, n6⟩ := N
  by_cases c0 : v1 < 0
  · exact br_t c0 (br_t c0 ⟨rfl, J⟩)
  · obtain ⟨j, hj, rfl⟩ := nI_of c0
    by_cases c1 : ts ≤ j
    · exact br_f c0 (br_t (nI_le c1 hj) (br_f c0 (br_f (nI_nlt c1 hj) ⟨rfl, J⟩)))
    · have a3 : vp_in (nI j) 250 := vp_in_nI (by omega) (by omega)
      exact br_f c0 (br_f (nI_ge (by omega) (by omega)) ⟨a3, br_f c0 (br_t (nI_lt (by omega) (by omega)) ⟨a3, rfl, J⟩)⟩)
theorem i_vc_count {k : Nat} {u : SX} {v : SY} (I : i_Rel k u v) (hk : k + 3 ≤ 1536) : wpX_count (fun r => wpY_count (fun r' => r' = r ∧ i_Rel (k + 3) u v) v) u := by
  have J := I
  obtain ⟨ts, cc, wc, ss, cs, ws, wl, tx, cd, bg, wh, sz, lg, pt, rfl, rfl, N, K, D⟩ := I
  obtain ⟨n1, n2, n3, n4, n5, n6⟩ := N
  have t1 : (nI ts - nI ss).toInt = (ts : Int) - ss := pk_sub_toInt (by omega) (by omega)
  unfold wpX_count
  dsimp only
  refine cx_ofW (by omega) (by decide) n1 n5 ?_
  unfold wpY_count
  dsimp only
  refine cy_btW (p := 0) n1 (by omega) n1 n5 ⟨?_, J⟩
  rw [t1, show ((ts : Int) - ss + 1).toNat = ts + 1 - ss by omega, show (0 : Int32).toInt.toNat = 0 from rfl]
theorem i_vc_first {k : Nat} {u : SX} {v : SY} (I : i_Rel k u v) (hk : k + 3 ≤ 1536) : wpX_first (fun r => wpY_first (fun r' => r' = r ∧ i_Rel (k + 3) u v) v) u := by
  have J := I
  obtain ⟨ts, cc, wc, ss, cs, ws, wl, tx, cd, bg, wh, sz, lg, pt, rfl, rfl, N, K, D⟩ := I
  obtain ⟨n1, n2, n3, n4, n5, n6⟩ := N
  obtain ⟨r, hX, hY⟩ := cz_first (ts := ts) (ss := ss) (cI := nI cc) (wI := nI wc) (tx := tx) (cd := cd) (wh := wh) (sz := sz) (pt := pt) (bg := bg) (lg := lg) n1 n5 ts 0 (by omega)
  exact ⟨_, hX _ ⟨_, hY _ ⟨rfl, J⟩⟩⟩
theorem i_vc_last {k : Nat} {u : SX} {v : SY} (I : i_Rel k u v) (hk : k + 3 ≤ 1536) : wpX_last (fun r => wpY_last (fun r' => r' = r ∧ i_Rel (k + 3) u v) v) u := by
  have J := I
  obtain ⟨ts, cc, wc, ss, cs, ws, wl, tx, cd, bg, wh, sz, lg, pt, rfl, rfl, N, K, D⟩ := I
  obtain ⟨n1, n2, n3, n4, n5, n6⟩ := N
  obtain ⟨r, hX, hY⟩ := cz_last (ts := ts) (ss := ss) (cI := nI cc) (wI := nI wc) (tx := tx) (cd := cd) (wh := wh) (sz := sz) (pt := pt) (bg := bg) (lg := lg) n1 n5 ts (by omega)
  exact nm_e ⟨_, hX _ (nm_e ⟨_, hY _ ⟨rfl, J⟩⟩)⟩
theorem i_vc_tail {k : Nat} {u : SX} {v : SY} (I : i_Rel k u v) (hk : k + 3 ≤ 1536) : wpX_tail (fun r => wpY_tail (fun r' => r' = r ∧ i_Rel (k + 3) u v) v) u := by
  have J := I
  obtain ⟨ts, cc, wc, ss, cs, ws, wl, tx, cd, bg, wh, sz, lg, pt, rfl, rfl, N, K, D⟩ := I
  obtain ⟨n1, n2, n3, n4, n5, n6⟩ := N
  obtain ⟨r, hX, hY⟩ := cz_tail (ts := ts) (cI := nI cc) (wI := nI wc) (sI := nI ss) (tx := tx) (cd := cd) (wh := wh) (sz := sz) (pt := pt) (bg := bg) (lg := lg) n1 ss n5
  exact ⟨_, hX _ ⟨_, hY _ ⟨rfl, J⟩⟩⟩
theorem i_vc_within {k : Nat} {u : SX} {v : SY} (I : i_Rel k u v) (hk : k + 3 ≤ 1536) : wpX_within (fun r => wpY_within (fun r' => r' = r ∧ i_Rel (k + 3) u v) v) u := by
  have J := I
  obtain ⟨ts, cc, wc, ss, cs, ws, wl, tx, cd, bg, wh, sz, lg, pt, rfl, rfl, N, K, D⟩ := I
  obtain ⟨n1, n2, n3, n4, n5, n6⟩ := N
  obtain ⟨r, hX, hY⟩ := cz_within (ts := ts) (ss := ss) (wI := nI wc) (tx := tx) (wh := wh) (sz := sz) (pt := pt) (lg := lg) K (by omega) n1 n5 cc 0 0 (by omega)
  exact ⟨_, hX _ ⟨_, hY _ ⟨rfl, J⟩⟩⟩
theorem i_vc_endingIn {k : Nat} {u : SX} {v : SY} (I : i_Rel k u v) (hk : k + 3 ≤ 1536) (v1 : Int32) : wpX_endingIn (fun r => wpY_endingIn (fun r' => r' = r ∧ i_Rel (k + 3) u v) v v1) u v1 := by
  have J := I
  obtain ⟨ts, cc, wc, ss, cs, ws, wl, tx, cd, bg, wh, sz, lg, pt, rfl, rfl, N, K, D⟩ := I
  obtain ⟨n1, n2, n3, n4, n5, n6⟩ := N
  by_cases c0 : v1 < 0
  · exact br_t c0 (br_t c0 ⟨rfl, J⟩)
  · obtain ⟨j, hj, rfl⟩ := nI_of c0
    by_cases c1 : j < cc
    · have a1 : nI j < nI cc := nI_lt c1 (by omega)
      have l0 := cq_Kl K (i := j) (by omega)
      have l1 := cq_Kl K (i := j + 1) (by omega)
      have l2 := K.2.2.1 j c1
      have e0 : cd (nI j).toNatClampNeg = nI (cs j) := by rw [cq_ci (by omega)]; exact K.2.2.2.1 _ c1
      have b0 : bg (nI j).toNatClampNeg = nI (cs j) := by rw [cq_ci (by omega)]; exact K.2.2.2.2 _ (by omega)
      have b1 : bg (nI j + 1).toNatClampNeg = nI (cs (j + 1)) := by rw [nI_1, cq_ci (by omega)]; exact K.2.2.2.2 _ (by omega)
      have v1 : vp_in (nI j + 1) 251 := by rw [nI_1]; exact vp_in_nI (by omega) (by omega)
      have t0 : (nI (cs j) - nI ss).toInt = (cs j : Int) - ss := pk_sub_toInt (by omega) (by omega)
      have t2 : (nI (cs j) - nI ss + 1).toInt = (cs j : Int) - ss + 1 := by rw [cq_s (by omega), t0]
      have t1 : (nI (cs (j + 1)) - nI ss).toInt = (cs (j + 1) : Int) - ss := pk_sub_toInt (by omega) (by omega)
      refine br_f c0 (br_t a1 (cx_ce K (by omega) c1 ⟨vp_in_nI (by omega) (by omega), ?_⟩))
      rw [e0]
      refine cx_ofW (by omega) (by omega) n1 n5 (br_f c0 (br_t a1 ⟨v1, ?_⟩))
      rw [b1]
      refine cy_btW (p := 0) (by omega) (by omega) n1 n5 ⟨vp_in_nI (by omega) (by omega), ?_⟩
      rw [b0]
      refine cy_btW (p := 0) (by omega) (by omega) n1 n5 ⟨?_, J⟩
      have m := cq_Cm (cq_o tx pt ts ss) (m := cs j + 1 - ss) (n := cs (j + 1) + 1 - ss) (by omega)
      have z : cq_C (cq_o tx pt ts ss) 0 = 0 := rfl
      rw [t1, t2, show ((cs (j + 1) : Int) - ss + 1).toNat = cs (j + 1) + 1 - ss by omega, show ((cs j : Int) - ss + 1).toNat = cs j + 1 - ss by omega, z, Nat.sub_zero, Nat.sub_zero, pk_sub m]
    · have a1 : ¬ nI j < nI cc := nI_nlt (by omega) hj
      exact br_f c0 (br_f a1 (br_f c0 (br_f a1 ⟨rfl, J⟩)))
theorem i_vc_feed {k : Nat} {u : SX} {v : SY} (I : i_Rel k u v) (hk : k + 3 ≤ 1536) (v1 : Int32) : wpX_feed (fun r u' => wpY_feed (fun r' v' => r' = r ∧ i_Rel (k + 3) u' v') v v1) u v1 := by
  have J := I
  obtain ⟨ts, cc, wc, ss, cs, ws, wl, tx, cd, bg, wh, sz, lg, pt, rfl, rfl, N, K, D⟩ := I
  obtain ⟨n1, n2, n3, n4, n5, n6⟩ := N
  by_cases c0 : v1 < 0
  · exact br_t c0 (br_t c0 ⟨rfl, J⟩)
  · obtain ⟨j, hj, rfl⟩ := nI_of c0
    have hst : ∃ st : Nat, st ≤ ts ∧ (cc = 0 → st = 0) ∧ (0 < cc → cd (cc - 1) = nI st ∧ bg (cc - 1) = nI st) := by
      by_cases h : cc = 0
      · exact ⟨0, by omega, fun _ => rfl, fun z => absurd z (by omega)⟩
      · exact ⟨cs (cc - 1), cq_Kl K (by omega), fun z => absurd z h, fun z => ⟨K.2.2.2.1 _ (by omega), K.2.2.2.2 _ (by omega)⟩⟩
    obtain ⟨st, s1, s2, s3⟩ := hst
    by_cases hm : 0 < cc ∧ wc < 60
    · have hG : ∀ P : Int32 → Prop, P (nI wc) → wpX_greatestCode P (nI ts, nI cc, nI wc, nI ss, tx, cd, wh, sz, pt) := fun P hP => cx_gc1 hm.1 (by omega) hm.2 hP
      by_cases hr : wc < j
      · exact cx_fr hG hr hj (cy_fr hj n4 (by omega) (Or.inr ⟨hm.1, Or.inl hr⟩) ⟨rfl, J⟩)
      · have hw : ∃ n q : Nat, 1 ≤ n ∧ n ≤ 251 ∧ (j < wc → sz j = nI n ∧ (j < 4 → n = 1) ∧ (4 ≤ j → lg j = nI n ∧ wh j = nI q)) ∧ (wc ≤ j → n = ts - st + 1 ∧ q = st) ∧ (4 ≤ j → q + n ≤ ts + 1) := by
          by_cases h : wc ≤ j
          · exact ⟨ts - st + 1, st, by omega, by omega, fun z => absurd z (by omega), fun _ => ⟨rfl, rfl⟩, fun _ => by omega⟩
          · by_cases h4 : 4 ≤ j
            · obtain ⟨d1, d2, d3, d4, d5⟩ := D.2 j h4 (by omega)
              exact ⟨wl j, ws j, d4, by omega, fun _ => ⟨d2, fun z => absurd z (by omega), fun _ => ⟨d3, d1⟩⟩, fun z => absurd z h, fun _ => by omega⟩
            · exact ⟨1, 0, by omega, by omega, fun _ => ⟨D.1 j (by omega), fun _ => rfl, fun z => absurd z h4⟩, fun z => absurd z h, fun z => absurd z h4⟩
        obtain ⟨n, q, w1, w2, w3, w4, w5⟩ := hw
        refine cx_fw (g := wc) (n := n) (st := st) hG (by omega) n4 n4 (by omega) (fun z => (w3 z).1) (fun z => ⟨hm.1, (s3 hm.1).1, s1, (w4 z).1⟩) ?_
        have hY : ∀ P : Int32 → SY → Prop, wY_feed_90 P (nI j) (nI st) (nI n) (nI ts) (nI cc) (nI wc) (nI ss) tx bg wh lg pt → wpY_feed P (nI ts, nI cc, nI wc, nI ss, tx, bg, wh, lg, pt) (nI j) := fun P H =>
          cy_fw (fun z => absurd z (by omega)) (by omega) (fun _ => by omega) n4 (by omega) (fun z => (s3 z).2) s2 (fun z => ⟨(w3 z).2.1, fun z4 => ((w3 z).2.2 z4).1⟩) (fun z => ⟨s1, (w4 z).1⟩) H
        by_cases ht : ts + n ≤ 250
        · refine cx_f37 ht (cx_aw1 hm.1 (by omega) hm.2 (s3 hm.1).1 s1 ?_)
          have z1 : upd sz wc (nI (ts - st + 1)) j = nI n := by
            by_cases h : j = wc
            · rw [h, pk_us, (w4 (by omega)).1]
            · rw [pk_un h]; exact (w3 (by omega)).1
          have z2 : 4 ≤ j → upd wh wc (nI st) j = nI q ∧ q + n ≤ ts + 1 := by
            intro h4
            refine ⟨?_, w5 h4⟩
            by_cases h : j = wc
            · rw [h, pk_us, (w4 (by omega)).2]
            · rw [pk_un h]; exact ((w3 (by omega)).2.2 h4).2
          refine cx_ap (q := q) (by omega) z1 z2 ht (by omega) (hY _ (cy_f90 (q := q) n4 n3 (by omega) (fun h4 z => ((w3 z).2.2 h4).2) (fun z => (w4 z).2) w5 ht (cy_e1 hm.1 hm.2 (by omega) (by omega) s1 ⟨rfl, ?_⟩)))
          exact ⟨ts + n, cc + 1, wc + 1, ss, _, _, _, _, _, _, _, _, _, _, rfl, rfl, ⟨ht, by omega, by omega, by omega, n5, fun z => absurd z (by omega)⟩, cq_Kf K w1, cq_D1 D n3 (by omega) (by omega) (by omega)⟩
        · exact cx_f37n n1 (by omega) (by omega) (hY _ (cy_f90n n1 (by omega) (by omega) ⟨rfl, J⟩))
    · have hm' : cc = 0 ∨ 60 ≤ wc := by omega
      have hG : ∀ P : Int32 → Prop, P (nI (wc - 1)) → wpX_greatestCode P (nI ts, nI cc, nI wc, nI ss, tx, cd, wh, sz, pt) := fun P hP => cx_gc0 hm' (by omega) n4 n3 hP
      by_cases hr : wc ≤ j
      · refine cx_fr hG (by omega) hj (cy_fr hj n4 (by omega) ?_ ⟨rfl, J⟩)
        by_cases h : cc = 0
        · have := n6 h
          exact Or.inl ⟨h, by omega⟩
        · exact Or.inr ⟨by omega, by omega⟩
      · have hw : ∃ n q : Nat, 1 ≤ n ∧ n ≤ 251 ∧ sz j = nI n ∧ (j < 4 → n = 1) ∧ (4 ≤ j → lg j = nI n ∧ wh j = nI q ∧ q + n ≤ ts + 1) := by
          by_cases h4 : 4 ≤ j
          · obtain ⟨d1, d2, d3, d4, d5⟩ := D.2 j h4 (by omega)
            exact ⟨wl j, ws j, d4, by omega, d2, fun z => absurd z (by omega), fun _ => ⟨d3, d1, by omega⟩⟩
          · exact ⟨1, 0, by omega, by omega, D.1 j (by omega), fun _ => rfl, fun z => absurd z h4⟩
        obtain ⟨n, q, w1, w2, w3, w4, w5⟩ := hw
        refine cx_fw (g := wc - 1) (n := n) (st := st) hG (by omega) (by omega) n4 (by omega) (fun _ => w3) (fun z => absurd z hr) ?_
        have hY : ∀ P : Int32 → SY → Prop, wY_feed_90 P (nI j) (nI st) (nI n) (nI ts) (nI cc) (nI wc) (nI ss) tx bg wh lg pt → wpY_feed P (nI ts, nI cc, nI wc, nI ss, tx, bg, wh, lg, pt) (nI j) := fun P H =>
          cy_fw (fun z => by have := n6 z; omega) (by omega) (fun z => absurd z (by omega)) n4 (by omega) (fun z => (s3 z).2) s2 (fun z => ⟨w4, fun z4 => (w5 z4).1⟩) (fun z => absurd z hr) H
        by_cases ht : ts + n ≤ 250
        · refine cx_f37 ht (cx_aw0 hm' (by omega) n4 ?_)
          refine cx_ap (q := q) (by omega) w3 (fun h4 => (w5 h4).2) ht (by omega) (hY _ (cy_f90 (q := q) n4 n3 (by omega) (fun h4 z => (w5 h4).2.1) (fun z => absurd z hr) (fun h4 => (w5 h4).2.2) ht (cy_e0 hm' n4 (by omega) (by omega) ⟨rfl, ?_⟩)))
          exact ⟨ts + n, cc + 1, wc, ss, _, ws, wl, _, _, _, wh, sz, lg, pt, rfl, rfl, ⟨ht, by omega, n3, n4, n5, fun z => absurd z (by omega)⟩, cq_Kf K w1, cq_Dn D (by omega)⟩
        · exact cx_f37n n1 (by omega) (by omega) (hY _ (cy_f90n n1 (by omega) (by omega) ⟨rfl, J⟩))
