section
/-! rows taken from kit/rows (pk_*), and the pure pictures: equal beginnings (cq_b), occurrences (cq_o), their count below a place (cq_C) -/
theorem pk_us {f : Nat → Int32} {k : Nat} {x : Int32} : upd f k x k = x := if_pos rfl
theorem pk_un {f : Nat → Int32} {k j : Nat} {x : Int32} (h : j ≠ k) : upd f k x j = f j := if_neg h
theorem pk_sub {a b : Nat} (h : b ≤ a) : nI a - nI b = nI (a - b) := by
  obtain ⟨c, rfl⟩ : ∃ c, a = c + b := ⟨a - b, by omega⟩
  rw [← nI_add, Int32.add_sub_cancel, Nat.add_sub_cancel]
theorem pk_m1 (n : Nat) : nI (n + 1) + (-1) = nI n := by
  rw [← nI_1, Int32.add_assoc, show (1 : Int32) + (-1) = 0 from rfl, Int32.add_zero]
theorem pk_sub_toInt {a b : Nat} (ha : a < 2 ^ 30) (hb : b < 2 ^ 30) : (nI a - nI b).toInt = (a : Int) - b := by
  rw [Int32.toInt_sub, nI_toInt (by omega), nI_toInt (by omega)]
  exact Int.bmod_eq_of_le (by omega) (by omega)
theorem pk_sneg {a b : Nat} (hb : b < 2 ^ 30) (h : a < b) : nI a - nI b < 0 := by
  rw [Int32.lt_iff_toInt_lt, pk_sub_toInt (by omega) hb, show (0 : Int32).toInt = 0 from by decide]
  omega
theorem pk_ix (x : Int32) {n : Nat} (hn : n < 2 ^ 31) : x < 0 ∨ nI n ≤ x ∨ ∃ j : Nat, j < n ∧ x = nI j := by
  by_cases h : x < 0
  · exact Or.inl h
  · obtain ⟨j, hj, rfl⟩ := nI_of h
    by_cases h2 : j < n
    · exact Or.inr (Or.inr ⟨j, h2, rfl⟩)
    · exact Or.inr (Or.inl (nI_le (by omega) hj))
theorem pk_le {x y : Int32} {A B : Prop} (a b : Nat) (f : a ≤ b → A) (g : b < a → B) (hx : x = nI a := by rfl) (hy : y = nI b := by rfl) (ha : a < 2 ^ 31 := by omega) (hb : b < 2 ^ 31 := by omega) : (x ≤ y → A) ∧ (¬ x ≤ y → B) := by
  subst hx hy
  rw [nI_leI ha hb]
  exact ⟨f, fun z => g (by omega)⟩
theorem pk_lt {x y : Int32} {A B : Prop} (a b : Nat) (f : a < b → A) (g : b ≤ a → B) (hx : x = nI a := by rfl) (hy : y = nI b := by rfl) (ha : a < 2 ^ 31 := by omega) (hb : b < 2 ^ 31 := by omega) : (x < y → A) ∧ (¬ x < y → B) := by
  subst hx hy
  rw [nI_ltI ha hb]
  exact ⟨f, fun z => g (by omega)⟩
theorem pk_eq {x y : Int32} {A B : Prop} (a b : Nat) (f : a = b → A) (g : a ≠ b → B) (hx : x = nI a := by rfl) (hy : y = nI b := by rfl) (ha : a < 2 ^ 31 := by omega) (hb : b < 2 ^ 31 := by omega) : (x = y → A) ∧ (¬ x = y → B) := by
  subst hx hy
  rw [nI_eq ha hb]
  exact ⟨f, g⟩
theorem pk_in {x : Int32} (n N : Nat) (h : n < N) (hx : x = nI n := by rfl) (hN : N < 2 ^ 31 := by omega) : vp_in x N := by
  subst hx
  exact vp_in_nI h hN
theorem pk_cl {x : Int32} (n : Nat) (hx : x = nI n := by rfl) (h : n < 2 ^ 31 := by omega) : x.toNatClampNeg = n := by
  subst hx
  exact nI_clamp h

/-! ints near zero, by their value -/
theorem cq_add {x y : Int32} (hx : -1000 ≤ x.toInt ∧ x.toInt ≤ 1000) (hy : -1000 ≤ y.toInt ∧ y.toInt ≤ 1000) : (x + y).toInt = x.toInt + y.toInt := by
  rw [Int32.toInt_add]
  exact Int.bmod_eq_of_le (by omega) (by omega)
theorem cq_sub {x y : Int32} (hx : -1000 ≤ x.toInt ∧ x.toInt ≤ 1000) (hy : -1000 ≤ y.toInt ∧ y.toInt ≤ 1000) : (x - y).toInt = x.toInt - y.toInt := by
  rw [Int32.toInt_sub]
  exact Int.bmod_eq_of_le (by omega) (by omega)
theorem cq_i1 : (1 : Int32).toInt = 1 := by decide
theorem cq_i0 : (0 : Int32).toInt = 0 := by decide
theorem cq_s {x : Int32} (hx : -1000 ≤ x.toInt ∧ x.toInt ≤ 1000) : (x + 1).toInt = x.toInt + 1 := by
  rw [cq_add hx (by rw [cq_i1]; omega), cq_i1]
theorem cq_nat {x : Int32} (h0 : 0 ≤ x.toInt) : x = nI x.toInt.toNat := by
  have hb : x.toInt < 2 ^ 31 := Int32.toInt_lt x
  apply Int32.toInt_inj.mp
  rw [nI_toInt (by omega)]
  omega
theorem cq_le {x y : Int32} : x ≤ y ↔ x.toInt ≤ y.toInt := Int32.le_iff_toInt_le
theorem cq_lt {x y : Int32} : x < y ↔ x.toInt < y.toInt := Int32.lt_iff_toInt_lt

/-! the pictures -/
def cq_B (b : Bool) : Int32 := if b then 1 else 0
theorem cq_Bn (b : Bool) : narrow .boolean (.int (cq_B b)) = .int (cq_B b) := by
  cases b <;> rfl
theorem cq_B0 {b : Bool} : cq_B b = 0 ↔ b = false := by
  cases b <;> decide
def cq_b (tx pt : Nat → Int32) (p n : Nat) : Bool := decide (∀ i, i < n → tx (p + i) = pt i)
def cq_o (tx pt : Nat → Int32) (ts ss p : Nat) : Bool := decide (0 < ss) && (decide (p + ss ≤ ts) && cq_b tx pt p ss)
theorem cq_bt {tx pt : Nat → Int32} {p n : Nat} (h : ∀ i, i < n → tx (p + i) = pt i) : cq_b tx pt p n = true := decide_eq_true h
theorem cq_bf {tx pt : Nat → Int32} {p n i : Nat} (hi : i < n) (h : ¬ tx (p + i) = pt i) : cq_b tx pt p n = false := decide_eq_false (fun z => h (z i hi))
theorem cq_o0 {tx pt : Nat → Int32} {ts p : Nat} : cq_o tx pt ts 0 p = false := rfl
theorem cq_of {tx pt : Nat → Int32} {ts ss p : Nat} (h : ts < p + ss) : cq_o tx pt ts ss p = false := by
  unfold cq_o
  rw [decide_eq_false (show ¬ p + ss ≤ ts by omega)]
  simp
theorem cq_ot {tx pt : Nat → Int32} {ts ss p : Nat} (h0 : 0 < ss) (h : p + ss ≤ ts) : cq_o tx pt ts ss p = cq_b tx pt p ss := by
  unfold cq_o
  rw [decide_eq_true h0, decide_eq_true h]
  simp
def cq_C (f : Nat → Bool) : Nat → Nat
  | 0 => 0
  | n + 1 => cq_C f n + (if f n then 1 else 0)
theorem cq_Ct {f : Nat → Bool} {n : Nat} (h : f n = true) : cq_C f (n + 1) = cq_C f n + 1 := by
  rw [cq_C, if_pos h]
theorem cq_Cf {f : Nat → Bool} {n : Nat} (h : f n = false) : cq_C f (n + 1) = cq_C f n := by
  rw [cq_C, if_neg (by rw [h]; decide)]; rfl
theorem cq_C1 (f : Nat → Bool) (n : Nat) : cq_C f n ≤ cq_C f (n + 1) := Nat.le_add_right _ _
theorem cq_Cm (f : Nat → Bool) {m n : Nat} (h : m ≤ n) : cq_C f m ≤ cq_C f n := by
  induction n with
  | zero => rw [Nat.le_zero.mp h]; exact Nat.le_refl _
  | succ n ih =>
    by_cases e : m = n + 1
    · rw [e]; exact Nat.le_refl _
    · exact Nat.le_trans (ih (by omega)) (cq_C1 f n)
theorem cq_Cl (f : Nat → Bool) (n : Nat) : cq_C f n ≤ n := by
  induction n with
  | zero => exact Nat.le_refl _
  | succ n ih =>
    cases h : f n with
    | false => rw [cq_Cf h]; omega
    | true => rw [cq_Ct h]; omega
end
section
/-! the relation's pieces: sizes (cq_N), where the codes begin (cq_K), the dictionary (cq_D), the text after a code (cq_fl) -/
def cq_N (ts cc wc ss : Nat) : Prop := ts ≤ 250 ∧ cc ≤ ts ∧ 4 ≤ wc ∧ wc ≤ 60 ∧ ss ≤ 6 ∧ (cc = 0 → wc = 4)
def cq_K (ts cc : Nat) (cs : Nat → Nat) (cd bg : Nat → Int32) : Prop :=
  cs 0 = 0 ∧ cs cc = ts ∧ (∀ i, i < cc → cs i < cs (i + 1)) ∧ (∀ i, i < cc → cd i = nI (cs i)) ∧ (∀ i, i ≤ cc → bg i = nI (cs i))
def cq_D (ts wc : Nat) (ws wl : Nat → Nat) (wh sz lg : Nat → Int32) : Prop :=
  (∀ w, w < 4 → sz w = 1) ∧ ∀ w, 4 ≤ w → w < wc → wh w = nI (ws w) ∧ sz w = nI (wl w) ∧ lg w = nI (wl w) ∧ 1 ≤ wl w ∧ ws w + wl w ≤ ts
theorem cq_Kd {cs : Nat → Nat} {cc : Nat} (h : ∀ i, i < cc → cs i < cs (i + 1)) : ∀ d i : Nat, i + d = cc → cs i + d ≤ cs cc := by
  intro d
  induction d with
  | zero => intro i hi; rw [show i = cc by omega]; exact Nat.le_refl _
  | succ d ih =>
    intro i hi
    have a := h i (by omega)
    have b := ih (i + 1) (by omega)
    omega
theorem cq_Kl {ts cc : Nat} {cs : Nat → Nat} {cd bg : Nat → Int32} (K : cq_K ts cc cs cd bg) {i : Nat} (hi : i ≤ cc) : cs i ≤ ts := by
  have a := cq_Kd K.2.2.1 (cc - i) i (by omega)
  have b := K.2.1
  omega
theorem cq_Kf {ts cc n : Nat} {cs : Nat → Nat} {cd bg : Nat → Int32} (K : cq_K ts cc cs cd bg) (hn : 1 ≤ n) :
    cq_K (ts + n) (cc + 1) (fun i => if i = cc + 1 then ts + n else cs i) (upd cd cc (nI ts)) (upd (upd bg cc (nI ts)) (cc + 1) (nI (ts + n))) := by
  obtain ⟨k0, k1, k2, k3, k4⟩ := K
  refine ⟨?_, ?_, ?_, ?_, ?_⟩
  · show (if 0 = cc + 1 then ts + n else cs 0) = 0
    rw [if_neg (by omega)]; exact k0
  · show (if cc + 1 = cc + 1 then ts + n else cs (cc + 1)) = ts + n
    rw [if_pos rfl]
  · intro i hi
    show (if i = cc + 1 then ts + n else cs i) < (if i + 1 = cc + 1 then ts + n else cs (i + 1))
    rw [if_neg (show ¬ i = cc + 1 by omega)]
    by_cases e : i = cc
    · rw [if_pos (by omega), e, k1]; omega
    · rw [if_neg (by omega)]; exact k2 i (by omega)
  · intro i hi
    show upd cd cc (nI ts) i = nI (if i = cc + 1 then ts + n else cs i)
    rw [if_neg (show ¬ i = cc + 1 by omega)]
    by_cases e : i = cc
    · rw [e, pk_us, k1]
    · rw [pk_un e]; exact k3 i (by omega)
  · intro i hi
    show upd (upd bg cc (nI ts)) (cc + 1) (nI (ts + n)) i = nI (if i = cc + 1 then ts + n else cs i)
    by_cases e : i = cc + 1
    · rw [e, pk_us, if_pos rfl]
    · rw [pk_un e, if_neg e]
      by_cases e2 : i = cc
      · rw [e2, pk_us, k1]
      · rw [pk_un e2]; exact k4 i (by omega)
theorem cq_K0 {ts cc : Nat} {cs : Nat → Nat} {cd bg : Nat → Int32} (K : cq_K ts cc cs cd bg) : cq_K 0 0 cs cd bg := by
  obtain ⟨k0, k1, k2, k3, k4⟩ := K
  exact ⟨k0, k0, fun i hi => absurd hi (Nat.not_lt_zero i), fun i hi => absurd hi (Nat.not_lt_zero i), fun i hi => k4 i (by omega)⟩
theorem cq_Dn {ts ts' wc : Nat} {ws wl : Nat → Nat} {wh sz lg : Nat → Int32} (D : cq_D ts wc ws wl wh sz lg) (h : ts ≤ ts') : cq_D ts' wc ws wl wh sz lg :=
  ⟨D.1, fun w h4 hw => let ⟨a, b, c, d, e⟩ := D.2 w h4 hw; ⟨a, b, c, d, Nat.le_trans e h⟩⟩
theorem cq_D0 {ts wc : Nat} {ws wl : Nat → Nat} {wh sz lg : Nat → Int32} (D : cq_D ts wc ws wl wh sz lg) : cq_D 0 4 ws wl wh sz lg :=
  ⟨D.1, fun w h4 hw => absurd hw (by omega)⟩
theorem cq_D1 {ts ts' wc st l : Nat} {ws wl : Nat → Nat} {wh sz lg : Nat → Int32} (D : cq_D ts wc ws wl wh sz lg) (h4 : 4 ≤ wc) (h : ts ≤ ts') (hl : 1 ≤ l) (hs : st + l ≤ ts') :
    cq_D ts' (wc + 1) (fun w => if w = wc then st else ws w) (fun w => if w = wc then l else wl w) (upd wh wc (nI st)) (upd sz wc (nI l)) (upd lg wc (nI l)) := by
  refine ⟨fun w hw => ?_, fun w w4 hw => ?_⟩
  · rw [pk_un (show w ≠ wc by omega)]; exact D.1 w hw
  · show upd wh wc (nI st) w = nI (if w = wc then st else ws w) ∧ upd sz wc (nI l) w = nI (if w = wc then l else wl w) ∧ upd lg wc (nI l) w = nI (if w = wc then l else wl w) ∧ 1 ≤ (if w = wc then l else wl w) ∧ (if w = wc then st else ws w) + (if w = wc then l else wl w) ≤ ts'
    by_cases e : w = wc
    · subst e
      rw [if_pos rfl, if_pos rfl, pk_us, pk_us, pk_us]
      exact ⟨rfl, rfl, rfl, hl, hs⟩
    · rw [if_neg e, if_neg e, pk_un e, pk_un e, pk_un e]
      obtain ⟨a, b, c, d, f⟩ := D.2 w w4 (by omega)
      exact ⟨a, b, c, d, by omega⟩
def cq_fl (j q ts : Nat) (tx : Nat → Int32) : Nat → Nat → Int32
  | 0 => tx
  | i + 1 => upd (cq_fl j q ts tx i) (ts + i) (if j < 4 then nI j else cq_fl j q ts tx i (q + i))
end
section
/-! the scans: a beginning at a place, an occurrence, their counts, on both sides against the pictures -/
theorem cq_ix {p i : Nat} (h : p + i < 1000) : (nI p + nI i).toNatClampNeg = p + i := by
  rw [nI_add]; exact nI_clamp (by omega)
theorem cq_ci {i : Nat} (h : i < 1000) : (nI i).toNatClampNeg = i := nI_clamp (by omega)
theorem cq_vi {p i N : Nat} (h : p + i < N) (hN : N < 1000) : vp_in (nI p + nI i) N := by
  rw [nI_add]; exact vp_in_nI h (by omega)
theorem cq_Bt : cq_B true = 1 := rfl
theorem cq_Bf : cq_B false = 0 := rfl
theorem cq_ss {ss : Nat} (h : 0 < ss) (h6 : ss ≤ 6) : ¬ nI ss ≤ 0 := nI_nle h (by omega)
section
variable {ts ss : Nat} {cI wI sI : Int32} {tx cd wh sz pt bg lg : Nat → Int32}
theorem cx_bs {post : Int32 → Prop} {p n : Nat} (hp : p + n ≤ ts) (ht : ts ≤ 250) (hn : n ≤ 6) (hP : post (cq_B (cq_b tx pt p n))) :
    ∀ d i : Nat, i + d = n → (∀ j, j < i → tx (p + j) = pt j) → wX_beginningStandsAt_18 post (nI p) (nI n) (nI ts) cI wI sI tx cd wh sz pt (d + 1) (nI i) := by
  intro d
  induction d with
  | zero =>
    intro i hi he
    have hb : cq_b tx pt p n = true := cq_bt (by rw [show n = i by omega]; exact he)
    rw [hb, cq_Bt] at hP
    exact br_t (nI_le (by omega) (by omega)) hP
  | succ d ih =>
    intro i hi he
    have a1 := cq_ix (p := p) (i := i) (by omega)
    have a2 := cq_ci (i := i) (by omega)
    have hc : (tx (nI p + nI i).toNatClampNeg = pt (nI i).toNatClampNeg) ↔ (tx (p + i) = pt i) := by rw [a1, a2]
    refine br_f (nI_ge (by omega) (by omega)) ⟨cq_vi (by omega) (by omega), vp_in_nI (by omega) (by omega), ?_⟩
    by_cases e : tx (p + i) = pt i
    · refine br_t (hc.mpr e) (nm_r (nI_1 i) ?_)
      refine ih (i + 1) (by omega) (fun j hj => ?_)
      by_cases h : j = i
      · rw [h]; exact e
      · exact he j (by omega)
    · refine br_f (fun z => e (hc.mp z)) ?_
      rw [cq_bf (by omega) e, cq_Bf] at hP
      exact hP
theorem cx_bsA {post : Int32 → Prop} {p n : Nat} (hp : p + n ≤ ts) (ht : ts ≤ 250) (hn : n ≤ 6) (hP : post (cq_B (cq_b tx pt p n))) :
    wpX_beginningStandsAt post (nI ts, cI, wI, sI, tx, cd, wh, sz, pt) (nI p) (nI n) := by
  have h1 : ¬ nI p < 0 := nI_pos (by omega)
  have h2 : nI p ≤ nI ts - nI n := by
    rw [pk_sub (by omega)]; exact nI_le (by omega) (by omega)
  exact br_f h1 (br_t h2 ⟨n + 1, cx_bs hp ht hn hP n 0 (by omega) (fun j hj => absurd hj (Nat.not_lt_zero j))⟩)
theorem cx_bsB {post : Int32 → Prop} {x y : Int32} (hx : x < 0) (hP : post 0) :
    wpX_beginningStandsAt post (nI ts, cI, wI, sI, tx, cd, wh, sz, pt) x y := br_t hx hP
theorem cx_bsC {post : Int32 → Prop} {p n : Nat} (hp : ts < p + n) (h1000 : p ≤ 1000) (ht : ts ≤ 250) (hn : n ≤ 6) (hP : post 0) :
    wpX_beginningStandsAt post (nI ts, cI, wI, sI, tx, cd, wh, sz, pt) (nI p) (nI n) := by
  have h1 : ¬ nI p < 0 := nI_pos (by omega)
  have h2 : ¬ nI p ≤ nI ts - nI n := by
    rw [cq_le, pk_sub_toInt (by omega) (by omega), nI_toInt (by omega)]; omega
  exact br_f h1 (br_f h2 hP)
theorem cx_oc {post : Int32 → Prop} {p : Nat} (h1000 : p ≤ 1000) (ht : ts ≤ 250) (hs : ss ≤ 6) (hP : post (cq_B (cq_o tx pt ts ss p))) :
    wpX_occursAt post (nI ts, cI, wI, nI ss, tx, cd, wh, sz, pt) (nI p) := by
  by_cases h0 : ss = 0
  · subst h0
    exact br_t (by decide) hP
  · refine br_f (cq_ss (by omega) hs) ?_
    by_cases h1 : p + ss ≤ ts
    · rw [cq_ot (by omega) h1] at hP
      refine cx_bsA h1 ht hs ?_
      cases hb : cq_b tx pt p ss with
      | false => rw [hb] at hP; exact br_t rfl hP
      | true => rw [hb] at hP; exact br_f (by decide) hP
    · rw [cq_of (by omega)] at hP
      exact cx_bsC (by omega) h1000 ht hs (br_t rfl hP)
theorem cx_on {post : Int32 → Prop} {x : Int32} (hx : x < 0) (hs : ss ≤ 6) (hP : post 0) :
    wpX_occursAt post (nI ts, cI, wI, nI ss, tx, cd, wh, sz, pt) x := by
  by_cases h0 : ss = 0
  · subst h0
    exact br_t (by decide) hP
  · exact br_f (cq_ss (by omega) hs) (cx_bsB hx (br_t rfl hP))
theorem cy_at0 {post : Int32 → Prop} {x1 x3 f1 f2 f3 f4 : Int32} (n : Nat) (hP : post 0) : wY_at_32 post x1 f1 f2 f3 f4 tx bg wh lg pt (n + 1) 0 x3 :=
  br_c (fun _ => ⟨rfl, hP⟩) (fun _ => br_t rfl ⟨rfl, hP⟩)
theorem cy_at1 {post : Int32 → Prop} {p : Nat} (hp : p + ss ≤ ts) (ht : ts ≤ 250) (hs : ss ≤ 6) (hP : post (cq_B (cq_b tx pt p ss))) :
    ∀ d i : Nat, i + d = ss → (∀ j, j < i → tx (p + j) = pt j) → wY_at_32 post (nI p) (nI ts) cI wI (nI ss) tx bg wh lg pt (d + 1 + 1) 1 (nI i) := by
  intro d
  induction d with
  | zero =>
    intro i hi he
    have hb : cq_b tx pt p ss = true := cq_bt (by rw [show ss = i by omega]; exact he)
    rw [hb, cq_Bt] at hP
    exact br_t (nI_le (by omega) (by omega)) ⟨rfl, hP⟩
  | succ d ih =>
    intro i hi he
    have a1 := cq_ix (p := p) (i := i) (by omega)
    have a2 := cq_ci (i := i) (by omega)
    have hc : (tx (nI p + nI i).toNatClampNeg = pt (nI i).toNatClampNeg) ↔ (tx (p + i) = pt i) := by rw [a1, a2]
    refine br_f (nI_ge (by omega) (by omega)) (br_f (by decide) ⟨cq_vi (by omega) (by omega), vp_in_nI (by omega) (by omega), ?_⟩)
    by_cases e : tx (p + i) = pt i
    · refine br_t (hc.mpr e) (nm_r (nI_1 i) ?_)
      refine ih (i + 1) (by omega) (fun j hj => ?_)
      by_cases h : j = i
      · rw [h]; exact e
      · exact he j (by omega)
    · rw [cq_bf (by omega) e, cq_Bf] at hP
      exact br_f (fun z => e (hc.mp z)) (nm_e (cy_at0 (d + 1) hP))
theorem cy_at {post : Int32 → Prop} {p : Nat} (h1000 : p ≤ 1000) (ht : ts ≤ 250) (hs : ss ≤ 6) (hP : post (cq_B (cq_o tx pt ts ss p))) :
    wpY_at post (nI ts, cI, wI, nI ss, tx, bg, wh, lg, pt) (nI p) := by
  by_cases h0 : ss = 0
  · subst h0
    exact br_t (by decide) ⟨1, cy_at0 0 hP⟩
  · refine br_f (cq_ss (by omega) hs) (br_f (nI_pos (by omega)) ?_)
    by_cases h1 : p + ss ≤ ts
    · rw [cq_ot (by omega) h1] at hP
      have h2 : ¬ nI ts < nI p + nI ss := by rw [nI_add]; exact nI_nlt h1 (by omega)
      exact br_f h2 ⟨ss + 1 + 1, cy_at1 h1 ht hs hP ss 0 (by omega) (fun j hj => absurd hj (Nat.not_lt_zero j))⟩
    · rw [cq_of (by omega)] at hP
      have h2 : nI ts < nI p + nI ss := by rw [nI_add]; exact nI_lt (by omega) (by omega)
      exact br_t h2 ⟨1, cy_at0 0 hP⟩
theorem cx_of {post : Int32 → Prop} {g : Int32} (hg : -10 ≤ g.toInt ∧ g.toInt ≤ 260) (ht : ts ≤ 250) (hs : ss ≤ 6) :
    ∀ (d : Nat) (x : Int32) (f : Nat), (g.toInt + 1 - x.toInt).toNat = d → -10 ≤ x.toInt ∧ x.toInt ≤ 270 →
      post (nI (f + (cq_C (cq_o tx pt ts ss) (g.toInt + 1).toNat - cq_C (cq_o tx pt ts ss) x.toInt.toNat))) →
      wX_occurrencesFrom_5 post g (nI ts) cI wI (nI ss) tx cd wh sz pt (d + 1) (nI f) x := by
  intro d
  induction d with
  | zero =>
    intro x f hd hx hP
    have hm := cq_Cm (cq_o tx pt ts ss) (m := (g.toInt + 1).toNat) (n := x.toInt.toNat) (by omega)
    rw [Nat.sub_eq_zero_of_le hm] at hP
    exact br_t (cq_lt.mpr (by omega)) hP
  | succ d ih =>
    intro x f hd hx hP
    have h1 : (x + 1).toInt = x.toInt + 1 := cq_s (by omega)
    refine br_f (fun z => ?_) ?_
    · have := cq_lt.mp z; omega
    · by_cases h0 : x.toInt < 0
      · refine cx_on (cq_lt.mpr (by rw [cq_i0]; exact h0)) hs (br_t rfl (nm_e ?_))
        refine ih (x + 1) f (by omega) (by omega) ?_
        rw [h1, show (x.toInt + 1).toNat = x.toInt.toNat by omega]
        exact hP
      · have hm := cq_Cm (cq_o tx pt ts ss) (m := x.toInt.toNat + 1) (n := (g.toInt + 1).toNat) (by omega)
        have e : x = nI x.toInt.toNat := cq_nat (by omega)
        have key : wpX_occursAt (fun r_2 => (r_2 = 0 → ∀ y, y = x + 1 → wX_occurrencesFrom_5 post g (nI ts) cI wI (nI ss) tx cd wh sz pt (d + 1) (nI f) y) ∧ (¬ r_2 = 0 → ∀ y, y = nI f + 1 → ∀ z, z = x + 1 → wX_occurrencesFrom_5 post g (nI ts) cI wI (nI ss) tx cd wh sz pt (d + 1) y z)) (nI ts, cI, wI, nI ss, tx, cd, wh, sz, pt) (nI x.toInt.toNat) := by
          refine cx_oc (by omega) ht hs ?_
          cases hb : cq_o tx pt ts ss x.toInt.toNat with
          | false =>
            refine br_t rfl (nm_e (ih (x + 1) f (by omega) (by omega) ?_))
            rw [h1, show (x.toInt + 1).toNat = x.toInt.toNat + 1 by omega, cq_Cf hb]
            exact hP
          | true =>
            rw [cq_Ct hb] at hm
            refine br_f (by decide) (nm_r (nI_1 f) (nm_e (ih (x + 1) (f + 1) (by omega) (by omega) ?_)))
            rw [h1, show (x.toInt + 1).toNat = x.toInt.toNat + 1 by omega, cq_Ct hb]
            rw [show f + 1 + (cq_C (cq_o tx pt ts ss) (g.toInt + 1).toNat - (cq_C (cq_o tx pt ts ss) x.toInt.toNat + 1)) = f + (cq_C (cq_o tx pt ts ss) (g.toInt + 1).toNat - cq_C (cq_o tx pt ts ss) x.toInt.toNat) by omega]
            exact hP
        rw [← e] at key
        exact key
theorem cx_ofW {post : Int32 → Prop} {x g : Int32} (hg : -10 ≤ g.toInt ∧ g.toInt ≤ 260) (hx : -10 ≤ x.toInt ∧ x.toInt ≤ 260) (ht : ts ≤ 250) (hs : ss ≤ 6)
    (hP : post (nI (cq_C (cq_o tx pt ts ss) (g.toInt + 1).toNat - cq_C (cq_o tx pt ts ss) x.toInt.toNat))) :
    wpX_occurrencesFrom post (nI ts, cI, wI, nI ss, tx, cd, wh, sz, pt) x g :=
  ⟨_, cx_of hg ht hs _ x 0 rfl (by omega) (by rw [Nat.zero_add]; exact hP)⟩
theorem cy_bt {post : Int32 → Prop} {t : Nat} (h : t ≤ 250) (ht : ts ≤ 250) (hs : ss ≤ 6) :
    ∀ d p f : Nat, t + 1 - (p + ss) = d → p ≤ 300 →
      post (nI (f + (cq_C (cq_o tx pt ts ss) (t + 1 - ss) - cq_C (cq_o tx pt ts ss) p))) →
      wY_between_5 post (nI t) (nI ts) cI wI (nI ss) tx bg wh lg pt (d + 1) (nI f) (nI p) := by
  intro d
  induction d with
  | zero =>
    intro p f hd hp hP
    have hm := cq_Cm (cq_o tx pt ts ss) (m := t + 1 - ss) (n := p) (by omega)
    rw [Nat.sub_eq_zero_of_le hm] at hP
    have h2 : nI t < nI p + nI ss := by rw [nI_add]; exact nI_lt (by omega) (by omega)
    exact br_t h2 hP
  | succ d ih =>
    intro p f hd hp hP
    have h2 : ¬ nI t < nI p + nI ss := by rw [nI_add]; exact nI_nlt (by omega) (by omega)
    have hm := cq_Cm (cq_o tx pt ts ss) (m := p + 1) (n := t + 1 - ss) (by omega)
    refine br_f h2 (cy_at (by omega) ht hs ?_)
    cases hb : cq_o tx pt ts ss p with
    | false =>
      refine br_t rfl (nm_r (Int32.add_zero _) (nm_r (nI_1 p) (ih (p + 1) f (by omega) (by omega) ?_)))
      rw [cq_Cf hb]
      exact hP
    | true =>
      rw [cq_Ct hb] at hm
      refine br_f (by decide) (nm_r (nI_1 f) (nm_r (nI_1 p) (ih (p + 1) (f + 1) (by omega) (by omega) ?_)))
      rw [cq_Ct hb]
      rw [show f + 1 + (cq_C (cq_o tx pt ts ss) (t + 1 - ss) - (cq_C (cq_o tx pt ts ss) p + 1)) = f + (cq_C (cq_o tx pt ts ss) (t + 1 - ss) - cq_C (cq_o tx pt ts ss) p) by omega]
      exact hP
theorem cy_btW {post : Int32 → Prop} {p t : Nat} (h : t ≤ 250) (hp : p ≤ 250) (ht : ts ≤ 250) (hs : ss ≤ 6)
    (hP : post (nI (cq_C (cq_o tx pt ts ss) (t + 1 - ss) - cq_C (cq_o tx pt ts ss) p))) :
    wpY_between post (nI ts, cI, wI, nI ss, tx, bg, wh, lg, pt) (nI p) (nI t) :=
  ⟨_, cy_bt h ht hs _ p 0 rfl (by omega) (by rw [Nat.zero_add]; exact hP)⟩
end
end
section
/-! one answer for both sides: first, last, tail, within; what shorten leaves -/
section
variable {ts ss : Nat} {cI wI sI : Int32} {tx cd wh sz pt bg lg : Nat → Int32}
theorem cz_first (ht : ts ≤ 250) (hs : ss ≤ 6) : ∀ d p : Nat, p + d = ts →
    ∃ r : Int32, (∀ post : Int32 → Prop, post r → wX_first_2 post (nI ts) cI wI (nI ss) tx cd wh sz pt (d + 1) (nI p)) ∧
      (∀ post : Int32 → Prop, post r → wY_first_2 post (nI ts) cI wI (nI ss) tx bg wh lg pt (d + 1) (nI p)) := by
  intro d
  induction d with
  | zero =>
    intro p hp
    have h : nI ts ≤ nI p := nI_le (by omega) (by omega)
    exact ⟨-1, fun _ hP => br_t h hP, fun _ hP => br_t h hP⟩
  | succ d ih =>
    intro p hp
    have h : ¬ nI ts ≤ nI p := nI_ge (by omega) (by omega)
    cases hb : cq_o tx pt ts ss p with
    | false =>
      obtain ⟨r, hX, hY⟩ := ih (p + 1) (by omega)
      refine ⟨r, fun post hP => br_f h (cx_oc (by omega) ht hs ?_), fun post hP => br_f h (cy_at (by omega) ht hs ?_)⟩
      · rw [hb]; exact br_t rfl (nm_r (nI_1 p) (hX post hP))
      · rw [hb]; exact br_t rfl (nm_r (nI_1 p) (hY post hP))
    | true =>
      refine ⟨nI p, fun post hP => br_f h (cx_oc (by omega) ht hs ?_), fun post hP => br_f h (cy_at (by omega) ht hs ?_)⟩
      · rw [hb]; exact br_f (by decide) hP
      · rw [hb]; exact br_f (by decide) hP
theorem cz_m1 (q : Nat) : nI q + (-1) = nI q - 1 := by
  rw [Int32.sub_eq_add_neg]
theorem cz_last (ht : ts ≤ 250) (hs : ss ≤ 6) : ∀ q : Nat, q ≤ ts →
    ∃ r : Int32, (∀ post : Int32 → Prop, post r → wX_last_7 post (nI ts) cI wI (nI ss) tx cd wh sz pt (q + 1) (nI q - 1)) ∧
      (∀ post : Int32 → Prop, post r → wY_last_7 post (nI ts) cI wI (nI ss) tx bg wh lg pt (q + 1) (nI q - 1)) := by
  intro q
  induction q with
  | zero =>
    intro _
    have h : nI 0 - 1 < 0 := by decide
    exact ⟨-1, fun _ hP => br_t h hP, fun _ hP => br_t h hP⟩
  | succ q ih =>
    intro hq
    rw [nI_pred]
    have h : ¬ nI q < 0 := nI_pos (by omega)
    cases hb : cq_o tx pt ts ss q with
    | false =>
      obtain ⟨r, hX, hY⟩ := ih (by omega)
      refine ⟨r, fun post hP => br_f h (cx_oc (by omega) ht hs ?_), fun post hP => br_f h (cy_at (by omega) ht hs ?_)⟩
      · rw [hb]; exact br_t rfl (nm_r (cz_m1 q) (hX post hP))
      · rw [hb]; exact br_t rfl (nm_r (cz_m1 q) (hY post hP))
    | true =>
      refine ⟨nI q, fun post hP => br_f h (cx_oc (by omega) ht hs ?_), fun post hP => br_f h (cy_at (by omega) ht hs ?_)⟩
      · rw [hb]; exact br_f (by decide) hP
      · rw [hb]; exact br_f (by decide) hP
theorem cy_t0 {post J5 : Int32 → Prop} {q : Nat} (n : Nat) {x3 : Int32} (hJ : J5 (nI q)) : wY_tail_25 post J5 (nI (q + 1)) (nI ts) cI wI sI tx bg wh lg pt (n + 1) 0 x3 :=
  br_c (fun _ => br_t rfl (nm_r (pk_m1 q) hJ)) (fun _ => br_t rfl (br_t rfl (nm_r (pk_m1 q) hJ)))
theorem cy_t1 {post J5 : Int32 → Prop} {q : Nat} (hq : q + 1 ≤ ts) (ht : ts ≤ 250) (h6 : q + 1 ≤ 6)
    (hT : cq_b tx pt (ts - (q + 1)) (q + 1) = true → post (nI (q + 1))) (hF : cq_b tx pt (ts - (q + 1)) (q + 1) = false → J5 (nI q)) :
    ∀ d i : Nat, i + d = q + 1 → (∀ j, j < i → tx (ts - (q + 1) + j) = pt j) → wY_tail_25 post J5 (nI (q + 1)) (nI ts) cI wI sI tx bg wh lg pt (d + 1 + 1) 1 (nI i) := by
  intro d
  induction d with
  | zero =>
    intro i hi he
    have hb : cq_b tx pt (ts - (q + 1)) (q + 1) = true := cq_bt (by rw [← show i = q + 1 by omega] at he ⊢; exact he)
    exact br_t (nI_le (by omega) (by omega)) (br_f (by decide) (hT hb))
  | succ d ih =>
    intro i hi he
    have a0 : nI ts - nI (q + 1) = nI (ts - (q + 1)) := pk_sub hq
    have a1 := cq_ix (p := ts - (q + 1)) (i := i) (by omega)
    have a2 := cq_ci (i := i) (by omega)
    have hc : (tx (nI ts - nI (q + 1) + nI i).toNatClampNeg = pt (nI i).toNatClampNeg) ↔ (tx (ts - (q + 1) + i) = pt i) := by rw [a0, a1, a2]
    have hv : vp_in (nI ts - nI (q + 1) + nI i) 250 := by rw [a0]; exact cq_vi (by omega) (by omega)
    refine br_f (nI_ge (by omega) (by omega)) (br_f (by decide) ⟨hv, vp_in_nI (by omega) (by omega), ?_⟩)
    by_cases e : tx (ts - (q + 1) + i) = pt i
    · refine br_t (hc.mpr e) (nm_r (nI_1 i) ?_)
      refine ih (i + 1) (by omega) (fun j hj => ?_)
      by_cases h : j = i
      · rw [h]; exact e
      · exact he j (by omega)
    · exact br_f (fun z => e (hc.mp z)) (nm_e (cy_t0 (d + 1) (hF (cq_bf (by omega) e))))
theorem cz_tail (ht : ts ≤ 250) : ∀ q : Nat, q ≤ 6 →
    ∃ r : Int32, (∀ post : Int32 → Prop, post r → wX_tail_5 post (nI ts) cI wI sI tx cd wh sz pt (q + 1) (nI q)) ∧
      (∀ post : Int32 → Prop, post r → wY_tail_5 post (nI ts) cI wI sI tx bg wh lg pt (q + 1) (nI q)) := by
  intro q
  induction q with
  | zero =>
    intro _
    have h : nI 0 ≤ 0 := by decide
    exact ⟨0, fun _ hP => br_t h hP, fun _ hP => br_t h hP⟩
  | succ q ih =>
    intro hq
    have h : ¬ nI (q + 1) ≤ 0 := nI_nle (by omega) (by omega)
    obtain ⟨r, hX, hY⟩ := ih (by omega)
    by_cases hl : q + 1 ≤ ts
    · have a0 : nI ts - nI (q + 1) = nI (ts - (q + 1)) := pk_sub hl
      have hl2 : ¬ nI ts < nI (q + 1) := nI_nlt hl (by omega)
      have key : ∀ post : Int32 → Prop, (cq_b tx pt (ts - (q + 1)) (q + 1) = true → post (nI (q + 1))) → (cq_b tx pt (ts - (q + 1)) (q + 1) = false → wX_tail_5 post (nI ts) cI wI sI tx cd wh sz pt (q + 1) (nI q)) → wX_tail_5 post (nI ts) cI wI sI tx cd wh sz pt (q + 1 + 1) (nI (q + 1)) := by
        intro post hT hF
        have k2 : wpX_beginningStandsAt (fun r_2 => (r_2 = 0 → ∀ y, y = nI (q + 1) + (-1) → wX_tail_5 post (nI ts) cI wI sI tx cd wh sz pt (q + 1) y) ∧ (¬ r_2 = 0 → post (nI (q + 1)))) (nI ts, cI, wI, sI, tx, cd, wh, sz, pt) (nI (ts - (q + 1))) (nI (q + 1)) := by
          refine cx_bsA (by omega) ht hq ?_
          cases hb : cq_b tx pt (ts - (q + 1)) (q + 1) with
          | false => exact br_t rfl (nm_r (pk_m1 q) (hF hb))
          | true => exact br_f (by decide) (hT hb)
        rw [← a0] at k2
        exact br_f h k2
      cases hb : cq_b tx pt (ts - (q + 1)) (q + 1) with
      | false =>
        refine ⟨r, fun post hP => key post (fun z => absurd (hb.symm.trans z) (by decide)) (fun _ => hX post hP), fun post hP => br_f h (br_f hl2 ⟨q + 1 + 1 + 1, ?_⟩)⟩
        exact cy_t1 hl ht hq (fun z => absurd (hb.symm.trans z) (by decide)) (fun _ => hY post hP) (q + 1) 0 (by omega) (fun j hj => absurd hj (Nat.not_lt_zero j))
      | true =>
        refine ⟨nI (q + 1), fun post hP => key post (fun _ => hP) (fun z => absurd (hb.symm.trans z) (by decide)), fun post hP => br_f h (br_f hl2 ⟨q + 1 + 1 + 1, ?_⟩)⟩
        exact cy_t1 hl ht hq (fun _ => hP) (fun z => absurd (hb.symm.trans z) (by decide)) (q + 1) 0 (by omega) (fun j hj => absurd hj (Nat.not_lt_zero j))
    · have hl2 : nI ts < nI (q + 1) := nI_lt (by omega) (by omega)
      have hn : nI ts - nI (q + 1) < 0 := pk_sneg (by omega) (by omega)
      exact ⟨r, fun post hP => br_f h (cx_bsB hn (br_t rfl (nm_r (pk_m1 q) (hX post hP)))), fun post hP => br_f h (br_t hl2 ⟨1, cy_t0 0 (hY post hP)⟩)⟩
theorem cx_ce {cc : Nat} {cs : Nat → Nat} {post : Int32 → Prop} {k : Nat} (K : cq_K ts cc cs cd bg) (hc : cc ≤ 250) (hk : k < cc) (hP : post (nI (cs (k + 1)))) :
    wpX_codeEnd post (nI ts, nI cc, wI, sI, tx, cd, wh, sz, pt) (nI k) := by
  by_cases h : k + 1 < cc
  · have h1 : ¬ nI cc ≤ nI k + 1 := by rw [nI_1]; exact nI_ge h (by omega)
    have h2 : vp_in (nI k + 1) 250 := by rw [nI_1]; exact vp_in_nI (by omega) (by omega)
    have h3 : cd (nI k + 1).toNatClampNeg = nI (cs (k + 1)) := by rw [nI_1, cq_ci (by omega)]; exact K.2.2.2.1 _ h
    refine br_f h1 ⟨h2, ?_⟩
    rw [h3]; exact hP
  · have h1 : nI cc ≤ nI k + 1 := by rw [nI_1]; exact nI_le (by omega) (by omega)
    refine br_t h1 ?_
    rw [show k + 1 = cc by omega, K.2.1] at hP
    exact hP
theorem cz_within {cc : Nat} {cs : Nat → Nat} (K : cq_K ts cc cs cd bg) (hc : cc ≤ 250) (ht : ts ≤ 250) (hs : ss ≤ 6) : ∀ (d k : Nat) (s : Int32), k + d = cc →
    ∃ r : Int32, (∀ post : Int32 → Prop, post r → wX_within_4 post (nI ts) (nI cc) wI (nI ss) tx cd wh sz pt (d + 1) s (nI k)) ∧
      (∀ post : Int32 → Prop, post r → wY_within_4 post (nI ts) (nI cc) wI (nI ss) tx bg wh lg pt (d + 1) s (nI k)) := by
  intro d
  induction d with
  | zero =>
    intro k s hk
    have h : nI cc ≤ nI k := nI_le (by omega) (by omega)
    exact ⟨s, fun _ hP => br_t h hP, fun _ hP => br_t h hP⟩
  | succ d ih =>
    intro k s hk
    have h : ¬ nI cc ≤ nI k := nI_ge (by omega) (by omega)
    have l0 := cq_Kl K (i := k) (by omega)
    have l1 := cq_Kl K (i := k + 1) (by omega)
    have e0 : cd (nI k).toNatClampNeg = nI (cs k) := by rw [cq_ci (by omega)]; exact K.2.2.2.1 _ (by omega)
    have b0 : bg (nI k).toNatClampNeg = nI (cs k) := by rw [cq_ci (by omega)]; exact K.2.2.2.2 _ (by omega)
    have b1 : bg (nI k + 1).toNatClampNeg = nI (cs (k + 1)) := by rw [nI_1, cq_ci (by omega)]; exact K.2.2.2.2 _ (by omega)
    have v1 : vp_in (nI k + 1) 251 := by rw [nI_1]; exact vp_in_nI (by omega) (by omega)
    have t0 : (nI (cs k)).toInt = (cs k : Int) := nI_toInt (by omega)
    have t1 : (nI (cs (k + 1)) - nI ss).toInt = (cs (k + 1) : Int) - ss := pk_sub_toInt (by omega) (by omega)
    obtain ⟨r, hX, hY⟩ := ih (k + 1) (s + nI (cq_C (cq_o tx pt ts ss) (cs (k + 1) + 1 - ss) - cq_C (cq_o tx pt ts ss) (cs k))) (by omega)
    refine ⟨r, fun post hP => br_f h (cx_ce K hc (by omega) ⟨vp_in_nI (by omega) (by omega), ?_⟩), fun post hP => br_f h ⟨vp_in_nI (by omega) (by omega), v1, ?_⟩⟩
    · rw [e0]
      refine cx_ofW (by omega) (by omega) ht hs ?_
      rw [t0, t1, show ((cs (k + 1) : Int) - ss + 1).toNat = cs (k + 1) + 1 - ss by omega, Int.toNat_natCast]
      exact nm_e (nm_r (nI_1 k) (hX post hP))
    · rw [b0, b1]
      exact cy_btW (by omega) (by omega) ht hs (nm_e (nm_r (nI_1 k) (hY post hP)))
theorem cz_short (x1 : Int32) (hs : ss ≤ 6) : ∀ (d i : Nat) (pt : Nat → Int32), i + d = ss → 1 ≤ i →
    ∃ pt' : Nat → Int32, (∀ post : Int32 → SX → Prop, post x1 (nI ts, cI, wI, nI (ss - 1), tx, cd, wh, sz, pt') → wX_shorten_18 post x1 (nI ts) cI wI (nI ss) (d + 1) (nI i) tx cd wh sz pt) ∧
      (∀ post : Int32 → SY → Prop, post x1 (nI ts, cI, wI, nI (ss - 1), tx, bg, wh, lg, pt') → wY_shorten_18 post x1 (nI ts) cI wI (nI ss) (d + 1) (nI i) tx bg wh lg pt) := by
  intro d
  induction d with
  | zero =>
    intro i pt hi h1
    have h : nI ss ≤ nI i := nI_le (by omega) (by omega)
    have e : nI ss - 1 = nI (ss - 1) := pk_sub (a := ss) (b := 1) (by omega)
    exact ⟨pt, fun _ hP => br_t h (nm_r e hP), fun _ hP => br_t h (nm_r e hP)⟩
  | succ d ih =>
    intro i pt hi h1
    have h : ¬ nI ss ≤ nI i := nI_ge (by omega) (by omega)
    have e : nI i - 1 = nI (i - 1) := pk_sub (a := i) (b := 1) (by omega)
    have v0 : vp_in (nI i) 6 := vp_in_nI (by omega) (by omega)
    have v1 : vp_in (nI i - 1) 6 := by rw [e]; exact vp_in_nI (by omega) (by omega)
    obtain ⟨pt', hX, hY⟩ := ih (i + 1) (upd pt (nI i - 1).toNatClampNeg (pt (nI i).toNatClampNeg)) (by omega) (by omega)
    exact ⟨pt', fun post hP => br_f h ⟨v0, v1, nm_e (nm_r (nI_1 i) (hX post hP))⟩, fun post hP => br_f h ⟨v0, v1, nm_e (nm_r (nI_1 i) (hY post hP))⟩⟩
end
end
section
/-! feed: what X's methods and Y's loop do with an allowed code -/
section
variable {ts cc wc j q n st : Nat} {cI wI sI : Int32} {tx cd wh sz pt bg lg : Nat → Int32}
theorem cx_mw1 {post : Int32 → Prop} (hc : 0 < cc) (hc' : cc ≤ 250) (hw : wc < 60) (hP : post 1) : wpX_makesWord post (nI ts, nI cc, nI wc, sI, tx, cd, wh, sz, pt) := by
  have h1 : ¬ nI cc ≤ 0 := nI_nle hc (by omega)
  have h2 : ¬ (60 : Int32) ≤ nI wc := nI_ge (b := 60) hw (by decide)
  exact br_f h1 (br_f h2 hP)
theorem cx_mw0 {post : Int32 → Prop} (h : cc = 0 ∨ 60 ≤ wc) (hc' : cc ≤ 250) (hw : wc ≤ 60) (hP : post 0) : wpX_makesWord post (nI ts, nI cc, nI wc, sI, tx, cd, wh, sz, pt) := by
  by_cases h0 : cc = 0
  · subst h0
    exact br_t (by decide) hP
  · have h1 : ¬ nI cc ≤ 0 := nI_nle (by omega) (by omega)
    have h2 : (60 : Int32) ≤ nI wc := nI_le (a := 60) (by omega) (by omega)
    exact br_f h1 (br_t h2 hP)
theorem cx_gc1 {post : Int32 → Prop} (hc : 0 < cc) (hc' : cc ≤ 250) (hw : wc < 60) (hP : post (nI wc)) : wpX_greatestCode post (nI ts, nI cc, nI wc, sI, tx, cd, wh, sz, pt) := by
  unfold wpX_greatestCode
  dsimp only
  exact cx_mw1 hc hc' hw (br_f (by decide) hP)
theorem cx_gc0 {post : Int32 → Prop} (h : cc = 0 ∨ 60 ≤ wc) (hc' : cc ≤ 250) (hw : wc ≤ 60) (h4 : 4 ≤ wc) (hP : post (nI (wc - 1))) : wpX_greatestCode post (nI ts, nI cc, nI wc, sI, tx, cd, wh, sz, pt) := by
  have e : nI wc - 1 = nI (wc - 1) := pk_sub (a := wc) (b := 1) (by omega)
  unfold wpX_greatestCode
  dsimp only
  refine cx_mw0 h hc' hw (br_t rfl ?_)
  rw [e]; exact hP
theorem cx_lc {post : Int32 → Prop} (hc : 0 < cc) (hc' : cc ≤ 250) (hd : cd (cc - 1) = nI st) (hst : st ≤ ts) (hP : post (nI (ts - st))) : wpX_lastCodeSize post (nI ts, nI cc, wI, sI, tx, cd, wh, sz, pt) := by
  have h1 : ¬ nI cc ≤ 0 := nI_nle hc (by omega)
  have e : nI cc - 1 = nI (cc - 1) := pk_sub (a := cc) (b := 1) (by omega)
  have h2 : vp_in (nI cc - 1) 250 := by rw [e]; exact vp_in_nI (by omega) (by omega)
  have h3 : nI ts - cd (nI cc - 1).toNatClampNeg = nI (ts - st) := by rw [e, cq_ci (by omega), hd, pk_sub hst]
  refine br_f h1 ⟨h2, ?_⟩
  rw [h3]; exact hP
theorem cx_aw0 {post : SX → Prop} (h : cc = 0 ∨ 60 ≤ wc) (hc' : cc ≤ 250) (hw : wc ≤ 60) (hP : post (nI ts, nI cc, nI wc, sI, tx, cd, wh, sz, pt)) : wpX_addWord post (nI ts, nI cc, nI wc, sI, tx, cd, wh, sz, pt) := by
  unfold wpX_addWord
  dsimp only
  exact cx_mw0 h hc' hw (br_t rfl hP)
theorem cx_aw1 {post : SX → Prop} (hc : 0 < cc) (hc' : cc ≤ 250) (hw : wc < 60) (hd : cd (cc - 1) = nI st) (hst : st ≤ ts)
    (hP : post (nI ts, nI cc, nI (wc + 1), sI, tx, cd, upd wh wc (nI st), upd sz wc (nI (ts - st + 1)), pt)) : wpX_addWord post (nI ts, nI cc, nI wc, sI, tx, cd, wh, sz, pt) := by
  have e : nI cc - 1 = nI (cc - 1) := pk_sub (a := cc) (b := 1) (by omega)
  have h2 : vp_in (nI cc - 1) 250 := by rw [e]; exact vp_in_nI (by omega) (by omega)
  have h3 : vp_in (nI wc) 60 := vp_in_nI hw (by omega)
  have h4 : cd (nI cc - 1).toNatClampNeg = nI st := by rw [e, cq_ci (by omega), hd]
  have h5 : (nI wc).toNatClampNeg = wc := cq_ci (by omega)
  unfold wpX_addWord
  dsimp only
  refine cx_mw1 hc hc' hw (br_f (by decide) ⟨h2, h3, ?_⟩)
  rw [h4, h5]
  refine nm_e (cx_lc hc hc' hd hst ⟨h3, ?_⟩)
  exact nm_r (by rw [nI_1]) (nm_r (nI_1 wc) hP)
theorem cx_sw {post : Int32 → Prop} {i : Nat} (hj : j < 60) (hq : 4 ≤ j → wh j = nI q ∧ q + i < 250) (hP : post (if j < 4 then nI j else tx (q + i))) :
    wpX_symbolOfWord post (nI ts, cI, wI, sI, tx, cd, wh, sz, pt) (nI j) (nI i) := by
  by_cases h4 : 4 ≤ j
  · obtain ⟨hw, hb⟩ := hq h4
    have h1 : (4 : Int32) ≤ nI j := nI_le (a := 4) h4 (by omega)
    have h5 : (nI j).toNatClampNeg = j := cq_ci (by omega)
    have h6 : wh (nI j).toNatClampNeg + nI i = nI q + nI i := by rw [h5, hw]
    refine br_t h1 ⟨vp_in_nI hj (by omega), ?_, ?_⟩
    · rw [h6]; exact cq_vi hb (by omega)
    · rw [h6, cq_ix (by omega)]
      rw [if_neg (by omega)] at hP
      exact hP
  · have h1 : ¬ (4 : Int32) ≤ nI j := nI_ge (b := 4) (by omega) (by decide)
    rw [if_pos (by omega)] at hP
    exact br_f h1 hP
theorem cx_apL {post : SX → Prop} (hj : j < 60) (hq : 4 ≤ j → wh j = nI q ∧ q + n ≤ ts + 1) (ht : ts + n ≤ 250) (hc : cc < 250)
    (hP : post (nI (ts + n), nI (cc + 1), wI, sI, cq_fl j q ts tx n, upd cd cc (nI ts), wh, sz, pt)) :
    ∀ d i : Nat, i + d = n → wX_appendWord_15 post (nI j) (nI ts) (nI n) (nI ts) (nI cc) wI sI (d + 1) (nI i) (cq_fl j q ts tx i) cd wh sz pt := by
  intro d
  induction d with
  | zero =>
    intro i hi
    have e : i = n := by omega
    subst e
    have h5 : (nI cc).toNatClampNeg = cc := cq_ci (by omega)
    refine br_t (nI_le (by omega) (by omega)) ⟨vp_in_nI hc (by omega), ?_⟩
    rw [h5]
    exact nm_e (nm_r (nI_1 cc) (nm_r (nI_add ts i) hP))
  | succ d ih =>
    intro i hi
    have h6 : (nI ts + nI i).toNatClampNeg = ts + i := cq_ix (by omega)
    refine br_f (nI_ge (by omega) (by omega)) (cx_sw (q := q) hj (fun h4 => ⟨(hq h4).1, by have := (hq h4).2; omega⟩) ⟨cq_vi (by omega) (by omega), ?_⟩)
    rw [h6]
    exact nm_e (nm_r (nI_1 i) (ih (i + 1) (by omega)))
theorem cx_ap {post : SX → Prop} (hj : j < 60) (hz : sz j = nI n) (hq : 4 ≤ j → wh j = nI q ∧ q + n ≤ ts + 1) (ht : ts + n ≤ 250) (hc : cc < 250)
    (hP : post (nI (ts + n), nI (cc + 1), wI, sI, cq_fl j q ts tx n, upd cd cc (nI ts), wh, sz, pt)) :
    wpX_appendWord post (nI ts, nI cc, wI, sI, tx, cd, wh, sz, pt) (nI j) := by
  have h5 : sz (nI j).toNatClampNeg = nI n := by rw [cq_ci (by omega), hz]
  exact ⟨vp_in_nI hj (by omega), nm_r h5 ⟨n + 1, cx_apL hj hq ht hc hP n 0 (by omega)⟩⟩
theorem cx_f37 {post : Int32 → SX → Prop} (ht : ts + n ≤ 250) (H : wpX_addWord (fun u => wpX_appendWord (fun u => post (nI n) u) u (nI j)) (nI ts, nI cc, nI wc, sI, tx, cd, wh, sz, pt)) :
    wX_feed_37 post (nI j) (nI n) (nI ts) (nI cc) (nI wc) sI tx cd wh sz pt := by
  have h : nI n ≤ 250 - nI ts := by
    rw [show (250 : Int32) = nI 250 from rfl, pk_sub (by omega)]; exact nI_le (by omega) (by omega)
  exact br_t h H
theorem cx_f37n {post : Int32 → SX → Prop} (h0 : ts ≤ 250) (hn : n ≤ 1000) (ht : 250 < ts + n) (H : post (-1) (nI ts, nI cc, nI wc, sI, tx, cd, wh, sz, pt)) :
    wX_feed_37 post (nI j) (nI n) (nI ts) (nI cc) (nI wc) sI tx cd wh sz pt := by
  have h : ¬ nI n ≤ 250 - nI ts := by
    rw [show (250 : Int32) = nI 250 from rfl, pk_sub (by omega)]; exact nI_ge (by omega) (by omega)
  exact br_f h H
theorem cx_fw {post : Int32 → SX → Prop} {g : Nat} (hG : ∀ P : Int32 → Prop, P (nI g) → wpX_greatestCode P (nI ts, nI cc, nI wc, sI, tx, cd, wh, sz, pt)) (hj : j ≤ g) (hg : g ≤ 60) (hwc : wc ≤ 60) (hc' : cc ≤ 250)
    (hA : j < wc → sz j = nI n) (hB : wc ≤ j → 0 < cc ∧ cd (cc - 1) = nI st ∧ st ≤ ts ∧ n = ts - st + 1)
    (H : wX_feed_37 post (nI j) (nI n) (nI ts) (nI cc) (nI wc) sI tx cd wh sz pt) : wpX_feed post (nI ts, nI cc, nI wc, sI, tx, cd, wh, sz, pt) (nI j) := by
  refine br_f (nI_pos (by omega)) (hG _ (br_t (nI_le hj (by omega)) ?_))
  by_cases h : wc ≤ j
  · obtain ⟨h0, h1, h2, h3⟩ := hB h
    refine br_t (nI_le h (by omega)) (cx_lc h0 hc' h1 h2 ?_)
    rw [h3] at H
    rw [nI_1]
    exact H
  · have h5 : sz (nI j).toNatClampNeg = nI n := by rw [cq_ci (by omega), hA (by omega)]
    refine br_f (nI_ge (by omega) (by omega)) ⟨vp_in_nI (by omega) (by omega), ?_⟩
    rw [h5]; exact H
theorem cx_fr {post : Int32 → SX → Prop} {g : Nat} (hG : ∀ P : Int32 → Prop, P (nI g) → wpX_greatestCode P (nI ts, nI cc, nI wc, sI, tx, cd, wh, sz, pt)) (hj : g < j) (hj' : j < 2 ^ 31)
    (H : post (-1) (nI ts, nI cc, nI wc, sI, tx, cd, wh, sz, pt)) : wpX_feed post (nI ts, nI cc, nI wc, sI, tx, cd, wh, sz, pt) (nI j) :=
  br_f (nI_pos hj') (hG _ (br_f (nI_ge hj hj') H))
theorem cy_222 {post : Int32 → SY → Prop} (hc : cc < 250) (hP : post (nI n) (nI (ts + n), nI (cc + 1), wI, sI, tx, upd (upd bg cc (nI ts)) (cc + 1) (nI (ts + n)), wh, lg, pt)) :
    wY_feed_222 post (nI n) (nI ts) (nI (ts + n)) (nI cc) wI sI tx bg wh lg pt := by
  have h1 : (nI cc).toNatClampNeg = cc := cq_ci (by omega)
  have h2 : (nI (cc + 1)).toNatClampNeg = cc + 1 := cq_ci (by omega)
  refine ⟨vp_in_nI (by omega) (by omega), ?_⟩
  rw [h1]
  refine nm_e (nm_r (nI_1 cc) ⟨vp_in_nI (by omega) (by omega), ?_⟩)
  rw [h2]
  exact nm_e hP
theorem cy_e0 {post : Int32 → SY → Prop} {x1 x2 : Int32} {m : Nat} (h : cc = 0 ∨ 60 ≤ wc) (hw : wc ≤ 60) (hn : n ≤ 250) (hc : cc < 250)
    (hP : post (nI n) (nI (ts + n), nI (cc + 1), nI wc, sI, tx, upd (upd bg cc (nI ts)) (cc + 1) (nI (ts + n)), wh, lg, pt)) :
    wY_feed_114 post x1 x2 (nI n) (nI ts) (nI ts) (nI cc) (nI wc) sI (m + 1) (nI n) tx bg wh lg pt := by
  refine br_t (nI_le (Nat.le_refl n) (by omega)) (nm_r (nI_add ts n) ?_)
  by_cases h0 : cc = 0
  · subst h0
    exact br_t (by decide) (cy_222 hc hP)
  · have h1 : ¬ nI cc ≤ 0 := nI_nle (by omega) (by omega)
    have h2 : (60 : Int32) ≤ nI wc := nI_le (a := 60) (by omega) (by omega)
    exact br_f h1 (br_t h2 (cy_222 hc hP))
theorem cy_e1 {post : Int32 → SY → Prop} {x1 : Int32} {m : Nat} (h0 : 0 < cc) (hw : wc < 60) (hn : n ≤ 250) (hc : cc < 250) (hst : st ≤ ts)
    (hP : post (nI n) (nI (ts + n), nI (cc + 1), nI (wc + 1), sI, tx, upd (upd bg cc (nI ts)) (cc + 1) (nI (ts + n)), upd wh wc (nI st), upd lg wc (nI (ts - st + 1)), pt)) :
    wY_feed_114 post x1 (nI st) (nI n) (nI ts) (nI ts) (nI cc) (nI wc) sI (m + 1) (nI n) tx bg wh lg pt := by
  have h1 : ¬ nI cc ≤ 0 := nI_nle h0 (by omega)
  have h2 : ¬ (60 : Int32) ≤ nI wc := nI_ge (b := 60) hw (by decide)
  have h3 : vp_in (nI wc) 60 := vp_in_nI hw (by omega)
  have h5 : (nI wc).toNatClampNeg = wc := cq_ci (by omega)
  have h6 : nI ts - nI st + 1 = nI (ts - st + 1) := by rw [pk_sub hst, nI_1]
  refine br_t (nI_le (Nat.le_refl n) (by omega)) (nm_r (nI_add ts n) (br_f h1 (br_f h2 ⟨h3, ?_⟩)))
  rw [h5]
  refine nm_e ⟨h3, ?_⟩
  rw [h6]
  exact nm_e (nm_r (nI_1 wc) (cy_222 hc hP))
theorem cy_sw {post : Int32 → Prop} {i : Nat} (hj : j < 60) (hq : 4 ≤ j → wh j = nI q ∧ q + i < 250) (hP : post (if j < 4 then nI j else tx (q + i))) :
    wpY_symbolOf post (nI ts, cI, wI, sI, tx, bg, wh, lg, pt) (nI j) (nI i) := by
  by_cases h4 : 4 ≤ j
  · obtain ⟨hw, hb⟩ := hq h4
    have h1 : (4 : Int32) ≤ nI j := nI_le (a := 4) h4 (by omega)
    have h5 : (nI j).toNatClampNeg = j := cq_ci (by omega)
    have h6 : wh (nI j).toNatClampNeg + nI i = nI q + nI i := by rw [h5, hw]
    refine br_t h1 ⟨vp_in_nI hj (by omega), ?_, ?_⟩
    · rw [h6]; exact cq_vi hb (by omega)
    · rw [h6, cq_ix (by omega)]
      rw [if_neg (by omega)] at hP
      exact hP
  · have h1 : ¬ (4 : Int32) ≤ nI j := nI_ge (b := 4) (by omega) (by decide)
    rw [if_pos (by omega)] at hP
    exact br_f h1 hP
theorem cy_L {post : Int32 → SY → Prop} (hw : wc ≤ 60) (h4 : 4 ≤ wc) (hjw : j ≤ wc) (hq : 4 ≤ j → j < wc → wh j = nI q) (hqs : wc ≤ j → q = st) (hb : 4 ≤ j → q + n ≤ ts + 1) (ht : ts + n ≤ 250)
    (hE : wY_feed_114 post (nI j) (nI st) (nI n) (nI ts) (nI ts) cI (nI wc) sI 1 (nI n) (cq_fl j q ts tx n) bg wh lg pt) :
    ∀ d i : Nat, i + d = n → wY_feed_114 post (nI j) (nI st) (nI n) (nI ts) (nI ts) cI (nI wc) sI (d + 1) (nI i) (cq_fl j q ts tx i) bg wh lg pt := by
  intro d
  induction d with
  | zero =>
    intro i hi
    have e : i = n := by omega
    subst e
    exact hE
  | succ d ih =>
    intro i hi
    have h6 : (nI ts + nI i).toNatClampNeg = ts + i := cq_ix (by omega)
    have h7 : vp_in (nI ts + nI i) 250 := cq_vi (by omega) (by omega)
    refine br_f (nI_ge (by omega) (by omega)) ?_
    by_cases h : wc ≤ j
    · have e := hqs h
      have hb' := hb (by omega)
      have h8 : (nI st + nI i).toNatClampNeg = st + i := cq_ix (by omega)
      have h9 : vp_in (nI st + nI i) 250 := cq_vi (by omega) (by omega)
      refine br_t (nI_le h (by omega)) ⟨h9, h7, ?_⟩
      rw [h6, h8]
      have := ih (i + 1) (by omega)
      rw [cq_fl, if_neg (by omega), e] at this
      rw [e]
      exact nm_e (nm_r (nI_1 i) this)
    · refine br_f (nI_ge (by omega) (by omega)) (cy_sw (q := q) (by omega) (fun h4 => ⟨hq h4 (by omega), by have := hb h4; omega⟩) ⟨h7, ?_⟩)
      rw [h6]
      exact nm_e (nm_r (nI_1 i) (ih (i + 1) (by omega)))
theorem cy_f90 {post : Int32 → SY → Prop} (hw : wc ≤ 60) (h4 : 4 ≤ wc) (hjw : j ≤ wc) (hq : 4 ≤ j → j < wc → wh j = nI q) (hqs : wc ≤ j → q = st) (hb : 4 ≤ j → q + n ≤ ts + 1) (ht : ts + n ≤ 250)
    (hE : wY_feed_114 post (nI j) (nI st) (nI n) (nI ts) (nI ts) cI (nI wc) sI 1 (nI n) (cq_fl j q ts tx n) bg wh lg pt) :
    wY_feed_90 post (nI j) (nI st) (nI n) (nI ts) cI (nI wc) sI tx bg wh lg pt := by
  have h : nI ts + nI n ≤ 250 := by
    rw [show (250 : Int32) = nI 250 from rfl, nI_add]; exact nI_le ht (by omega)
  exact br_t h ⟨n + 1, cy_L hw h4 hjw hq hqs hb ht hE n 0 (by omega)⟩
theorem cy_f90n {post : Int32 → SY → Prop} (h0 : ts ≤ 250) (hn : n ≤ 1000) (ht : 250 < ts + n) (H : post (-1) (nI ts, cI, wI, sI, tx, bg, wh, lg, pt)) :
    wY_feed_90 post (nI j) (nI st) (nI n) (nI ts) cI wI sI tx bg wh lg pt := by
  have h : ¬ nI ts + nI n ≤ 250 := by
    rw [show (250 : Int32) = nI 250 from rfl, nI_add]; exact nI_ge ht (by omega)
  exact br_f h H
theorem cy_fw {post : Int32 → SY → Prop} (h0 : cc = 0 → j ≤ 3) (h1 : j ≤ wc) (h2 : j = wc → wc ≠ 60) (hw : wc ≤ 60) (hc' : cc ≤ 250) (hs : 0 < cc → bg (cc - 1) = nI st) (hs0 : cc = 0 → st = 0)
    (hA : j < wc → (j < 4 → n = 1) ∧ (4 ≤ j → lg j = nI n)) (hB : wc ≤ j → st ≤ ts ∧ n = ts - st + 1)
    (H : wY_feed_90 post (nI j) (nI st) (nI n) (nI ts) (nI cc) (nI wc) sI tx bg wh lg pt) : wpY_feed post (nI ts, nI cc, nI wc, sI, tx, bg, wh, lg, pt) (nI j) := by
  have k65 : wY_feed_65 post (nI j) (nI st) (nI ts) (nI cc) (nI wc) sI tx bg wh lg pt := by
    by_cases h : wc ≤ j
    · obtain ⟨a, b⟩ := hB h
      refine br_t (nI_le h (by omega)) ?_
      rw [pk_sub a, nI_1, ← b]
      exact H
    · obtain ⟨a, b⟩ := hA (by omega)
      refine br_f (nI_ge (by omega) (by omega)) ?_
      by_cases h4 : 4 ≤ j
      · have e : lg (nI j).toNatClampNeg = nI n := by rw [cq_ci (by omega), b h4]
        refine br_t (nI_le (a := 4) h4 (by omega)) ⟨vp_in_nI (by omega) (by omega), ?_⟩
        rw [e]; exact H
      · have e := a (by omega)
        subst e
        exact br_f (nI_ge (b := 4) (by omega) (by decide)) H
  have k43 : wY_feed_43 post (nI j) (nI ts) (nI cc) (nI wc) sI tx bg wh lg pt := by
    by_cases h : cc = 0
    · have e := hs0 h
      subst e
      subst h
      exact br_t (by decide) k65
    · have e : nI cc - 1 = nI (cc - 1) := pk_sub (a := cc) (b := 1) (by omega)
      have e2 : bg (nI cc - 1).toNatClampNeg = nI st := by rw [e, cq_ci (by omega), hs (by omega)]
      refine br_f (nI_nle (by omega) (by omega)) ⟨?_, ?_⟩
      · rw [e]; exact vp_in_nI (by omega) (by omega)
      · rw [e2]; exact k65
  have k16 : wY_feed_16 post (nI j) (nI ts) (nI cc) (nI wc) sI tx bg wh lg pt := by
    refine br_f (nI_nlt h1 (by omega)) ?_
    by_cases h : j = wc
    · refine br_t (by rw [h]) (br_f (fun z => ?_) k43)
      exact h2 h ((nI_eq (b := 60) (by omega) (by decide)).mp z)
    · exact br_f (fun z => h ((nI_eq (by omega) (by omega)).mp z)) k43
  refine br_f (nI_pos (by omega)) ?_
  by_cases h : cc = 0
  · refine br_t (by rw [h]; exact nI_0) (br_f ?_ k16)
    exact nI_nlt (a := 3) (h0 h) (by decide)
  · exact br_f (nI_ne0 (by omega) (by omega)) k16
theorem cy_fr {post : Int32 → SY → Prop} (hj' : j < 2 ^ 31) (hw : wc ≤ 60) (hc' : cc ≤ 250) (h : (cc = 0 ∧ 3 < j) ∨ (0 < cc ∧ (wc < j ∨ (j = wc ∧ wc = 60))))
    (H : post (-1) (nI ts, nI cc, nI wc, sI, tx, bg, wh, lg, pt)) : wpY_feed post (nI ts, nI cc, nI wc, sI, tx, bg, wh, lg, pt) (nI j) := by
  refine br_f (nI_pos hj') ?_
  rcases h with ⟨h0, h3⟩ | ⟨h0, h3⟩
  · exact br_t (by rw [h0]; exact nI_0) (br_t (nI_lt (a := 3) h3 hj') H)
  · refine br_f (nI_ne0 (by omega) (by omega)) ?_
    rcases h3 with h3 | ⟨h3, h4⟩
    · exact br_t (nI_lt h3 hj') H
    · exact br_f (nI_nlt (by omega) (by omega)) (br_t (by rw [h3]) (br_t (by rw [h4]; rfl) H))
end
end
section
/-! what is owed -/
def i_Rel (_ : Nat) (u : SX) (v : SY) : Prop := ∃ (ts cc wc ss : Nat) (cs ws wl : Nat → Nat) (tx cd bg wh sz lg pt : Nat → Int32),
  u = (nI ts, nI cc, nI wc, nI ss, tx, cd, wh, sz, pt) ∧ v = (nI ts, nI cc, nI wc, nI ss, tx, bg, wh, lg, pt) ∧ cq_N ts cc wc ss ∧ cq_K ts cc cs cd bg ∧ cq_D ts wc ws wl wh sz lg
theorem i_up {k : Nat} {u : SX} {v : SY} (h : i_Rel k u v) : i_Rel (k + 3) u v := h
theorem cz_init {post : SX → Prop} {f1 f2 f3 f4 : Int32} {a1 a2 a3 a5 : Nat → Int32} (hP : ∀ sz : Nat → Int32, (∀ w, w < 4 → sz w = 1) → post (f1, f2, 4, f4, a1, a2, a3, sz, a5)) :
    ∀ (d i : Nat) (sz : Nat → Int32), i + d = 4 → (∀ w, w < i → sz w = 1) → wX_init_48 post f1 f2 f3 f4 (d + 1) (nI i) a1 a2 a3 sz a5 := by
  intro d
  induction d with
  | zero =>
    intro i sz hi he
    have e : i = 4 := by omega
    subst e
    exact br_t (by decide) (hP sz he)
  | succ d ih =>
    intro i sz hi he
    have h5 : (nI i).toNatClampNeg = i := cq_ci (by omega)
    refine br_f (nI_ge (b := 4) (by omega) (by decide)) ⟨vp_in_nI (by omega) (by omega), ?_⟩
    rw [h5]
    refine nm_e (nm_r (nI_1 i) (ih (i + 1) (upd sz i 1) (by omega) (fun w hw => ?_)))
    by_cases e : w = i
    · rw [e, pk_us]
    · rw [pk_un e]; exact he w (by omega)
theorem i_vc0 : wpX_init (fun u => wpY_init (fun v => i_Rel 0 u v)) :=
  ⟨5, cz_init (f3 := 0) (fun sz hz => ⟨0, 0, 4, 0, fun _ => 0, fun _ => 0, fun _ => 0, fun _ => 0, fun _ => 0, fun _ => 0, fun _ => 0, sz, fun _ => 0, fun _ => 0, rfl, rfl,
    ⟨by omega, by omega, by omega, by omega, by omega, fun _ => rfl⟩, ⟨rfl, rfl, fun i hi => absurd hi (Nat.not_lt_zero i), fun i hi => absurd hi (Nat.not_lt_zero i), fun _ _ => rfl⟩, ⟨hz, fun w h4 hw => absurd hw (by omega)⟩⟩) 4 0 (fun _ => 0) rfl (fun w hw => absurd hw (Nat.not_lt_zero w))⟩
theorem i_vc_restart {k : Nat} {u : SX} {v : SY} (I : i_Rel k u v) (hk : k + 3 ≤ 1536) : wpX_restart (fun u' => wpY_restart (fun v' => i_Rel (k + 3) u' v') v) u := by
  obtain ⟨ts, cc, wc, ss, cs, ws, wl, tx, cd, bg, wh, sz, lg, pt, rfl, rfl, N, K, D⟩ := I
  exact ⟨0, 0, 4, ss, cs, ws, wl, tx, cd, bg, wh, sz, lg, pt, rfl, rfl, ⟨by omega, by omega, by omega, by omega, N.2.2.2.2.1, fun _ => rfl⟩, cq_K0 K, cq_D0 D⟩
theorem i_vc_extend {k : Nat} {u : SX} {v : SY} (I : i_Rel k u v) (hk : k + 3 ≤ 1536) (v1 : Int32) : wpX_extend (fun r u' => wpY_extend (fun r' v' => r' = r ∧ i_Rel (k + 3) u' v') v v1) u v1 := by
  have J := I
  obtain ⟨ts, cc, wc, ss, cs, ws, wl, tx, cd, bg, wh, sz, lg, pt, rfl, rfl, N, K, D⟩ := I
  obtain ⟨n1, n2, n3, n4, n5, n6⟩ := N
  unfold wpX_extend
  dsimp only
  by_cases c0 : v1 < 0
  · exact br_t c0 (br_t rfl (br_t c0 ⟨rfl, J⟩))
  · obtain ⟨j, hj, rfl⟩ := nI_of c0
    by_cases c1 : 4 ≤ j
    · have a1 : (4 : Int32) ≤ nI j := nI_le (a := 4) c1 hj
      have a2 : (3 : Int32) < nI j := nI_lt (a := 3) (by omega) hj
      exact br_f c0 (br_t a1 (br_t rfl (br_f c0 (br_t a2 ⟨rfl, J⟩))))
    · have a1 : ¬ (4 : Int32) ≤ nI j := nI_ge (b := 4) (by omega) (by decide)
      have a2 : ¬ (3 : Int32) < nI j := nI_nlt (a := 3) (by omega) (by decide)
      by_cases c2 : ss < 6
      · have a3 : nI ss < (6 : Int32) := nI_lt (b := 6) c2 (by decide)
        have a4 : vp_in (nI ss) 6 := vp_in_nI c2 (by omega)
        refine br_f c0 (br_f a1 (br_f (by decide) (br_t a3 ⟨a4, nm_e (nm_r (nI_1 ss) (br_f c0 (br_f a2 (br_t a3 ⟨a4, nm_e (nm_r (nI_1 ss) ⟨rfl, ?_⟩)⟩))))⟩)))
        exact ⟨ts, cc, wc, ss + 1, cs, ws, wl, tx, cd, bg, wh, sz, lg, _, rfl, rfl, ⟨n1, n2, n3, n4, by omega, n6⟩, K, D⟩
      · have a3 : ¬ nI ss < (6 : Int32) := nI_nlt (b := 6) (by omega) (by omega)
        exact br_f c0 (br_f a1 (br_f (by decide) (br_f a3 (br_f c0 (br_f a2 (br_f a3 ⟨rfl, J⟩))))))
theorem i_vc_shorten {k : Nat} {u : SX} {v : SY} (I : i_Rel k u v) (hk : k + 3 ≤ 1536) : wpX_shorten (fun r u' => wpY_shorten (fun r' v' => r' = r ∧ i_Rel (k + 3) u' v') v) u := by
  have J := I
  obtain ⟨ts, cc, wc, ss, cs, ws, wl, tx, cd, bg, wh, sz, lg, pt, rfl, rfl, N, K, D⟩ := I
  obtain ⟨n1, n2, n3, n4, n5, n6⟩ := N
  by_cases c0 : ss = 0
  · subst c0
    exact br_t nI_0 (br_t nI_0 ⟨rfl, J⟩)
  · have a0 : ¬ nI ss = 0 := nI_ne0 (by omega) (by omega)
    obtain ⟨pt', hX, hY⟩ := cz_short (ts := ts) (cI := nI cc) (wI := nI wc) (tx := tx) (cd := cd) (wh := wh) (sz := sz) (bg := bg) (lg := lg) (pt 0) n5 (ss - 1) 1 pt (by omega) (by omega)
    refine br_f a0 (nm_e ⟨_, hX _ (br_f a0 (nm_e ⟨_, hY _ ⟨rfl, ?_⟩⟩))⟩)
    exact ⟨ts, cc, wc, ss - 1, cs, ws, wl, tx, cd, bg, wh, sz, lg, pt', rfl, rfl, ⟨n1, n2, n3, n4, by omega, n6⟩, K, D⟩
theorem i_vc_pattern {k : Nat} {u : SX} {v : SY} (I : i_Rel k u v) (hk : k + 3 ≤ 1536) : wpX_pattern (fun r => wpY_pattern (fun r' => r' = r ∧ i_Rel (k + 3) u v) v) u := by
  have J := I
  obtain ⟨ts, cc, wc, ss, cs, ws, wl, tx, cd, bg, wh, sz, lg, pt, rfl, rfl, N, K, D⟩ := I
  exact ⟨rfl, J⟩
theorem i_vc_codes {k : Nat} {u : SX} {v : SY} (I : i_Rel k u v) (hk : k + 3 ≤ 1536) : wpX_codes (fun r => wpY_codes (fun r' => r' = r ∧ i_Rel (k + 3) u v) v) u := by
  have J := I
  obtain ⟨ts, cc, wc, ss, cs, ws, wl, tx, cd, bg, wh, sz, lg, pt, rfl, rfl, N, K, D⟩ := I
  exact ⟨rfl, J⟩
theorem i_vc_words {k : Nat} {u : SX} {v : SY} (I : i_Rel k u v) (hk : k + 3 ≤ 1536) : wpX_words (fun r => wpY_words (fun r' => r' = r ∧ i_Rel (k + 3) u v) v) u := by
  have J := I
  obtain ⟨ts, cc, wc, ss, cs, ws, wl, tx, cd, bg, wh, sz, lg, pt, rfl, rfl, N, K, D⟩ := I
  exact ⟨rfl, J⟩
theorem i_vc_length {k : Nat} {u : SX} {v : SY} (I : i_Rel k u v) (hk : k + 3 ≤ 1536) : wpX_length (fun r => wpY_length (fun r' => r' = r ∧ i_Rel (k + 3) u v) v) u := by
  have J := I
  obtain ⟨ts, cc, wc, ss, cs, ws, wl, tx, cd, bg, wh, sz, lg, pt, rfl, rfl, N, K, D⟩ := I
  exact ⟨rfl, J⟩
theorem i_vc_wordLength {k : Nat} {u : SX} {v : SY} (I : i_Rel k u v) (hk : k + 3 ≤ 1536) (v1 : Int32) : wpX_wordLength (fun r => wpY_wordLength (fun r' => r' = r ∧ i_Rel (k + 3) u v) v v1) u v1 := by
  have J := I
  obtain ⟨ts, cc, wc, ss, cs, ws, wl, tx, cd, bg, wh, sz, lg, pt, rfl, rfl, N, K, D⟩ := I
  obtain ⟨n1, n2, n3, n4, n5, n6⟩ := N
  unfold wpX_wordLength
  dsimp only
  by_cases c0 : v1 < 0
  · exact br_t c0 (br_t rfl (br_t c0 ⟨rfl, J⟩))
  · obtain ⟨j, hj, rfl⟩ := nI_of c0
    by_cases c1 : wc ≤ j
    · exact br_f c0 (br_t (nI_le c1 hj) (br_t rfl (br_f c0 (br_f (nI_nlt c1 hj) ⟨rfl, J⟩))))
    · have a1 : ¬ nI wc ≤ nI j := nI_ge (by omega) (by omega)
      have a2 : nI j < nI wc := nI_lt (by omega) (by omega)
      have a3 : vp_in (nI j) 60 := vp_in_nI (by omega) (by omega)
      have a4 : (nI j).toNatClampNeg = j := cq_ci (by omega)
      by_cases c2 : 4 ≤ j
      · obtain ⟨d1, d2, d3, d4, d5⟩ := D.2 j c2 (by omega)
        have e : lg (nI j).toNatClampNeg = sz (nI j).toNatClampNeg := by rw [a4, d2, d3]
        exact br_f c0 (br_f a1 (br_f (by decide) ⟨a3, br_f c0 (br_t a2 (br_t (nI_le (a := 4) c2 hj) ⟨a3, e, J⟩))⟩))
      · have e : 1 = sz (nI j).toNatClampNeg := by rw [a4, D.1 j (by omega)]
        exact br_f c0 (br_f a1 (br_f (by decide) ⟨a3, br_f c0 (br_t a2 (br_f (nI_ge (b := 4) (by omega) (by decide)) ⟨e, J⟩))⟩))
theorem i_vc_wordSymbol {k : Nat} {u : SX} {v : SY} (I : i_Rel k u v) (hk : k + 3 ≤ 1536) (v1 : Int32) (v2 : Int32) : wpX_wordSymbol (fun r => wpY_wordSymbol (fun r' => r' = r ∧ i_Rel (k + 3) u v) v v1 v2) u v1 v2 := by
  have J := I
  obtain ⟨ts, cc, wc, ss, cs, ws, wl, tx, cd, bg, wh, sz, lg, pt, rfl, rfl, N, K, D⟩ := I
  obtain ⟨n1, n2, n3, n4, n5, n6⟩ := N
  unfold wpX_wordSymbol
  dsimp only
  by_cases c0 : v1 < 0
  · exact br_t c0 (br_t rfl (br_t c0 ⟨rfl, J⟩))
  · obtain ⟨j, hj, rfl⟩ := nI_of c0
    by_cases c1 : wc ≤ j
    · exact br_f c0 (br_t (nI_le c1 hj) (br_t rfl (br_f c0 (br_t (nI_le c1 hj) ⟨rfl, J⟩))))
    · have a1 : ¬ nI wc ≤ nI j := nI_ge (by omega) (by omega)
      have a3 : vp_in (nI j) 60 := vp_in_nI (by omega) (by omega)
      have a4 : (nI j).toNatClampNeg = j := cq_ci (by omega)
      refine br_f c0 (br_f a1 (br_f (by decide) ?_))
      by_cases k0 : v2 < 0
      · exact br_t k0 (br_f c0 (br_f a1 (br_t k0 ⟨rfl, J⟩)))
      · obtain ⟨i, hi, rfl⟩ := nI_of k0
        obtain ⟨l, hl, hlen, hD⟩ : ∃ l : Nat, sz j = nI l ∧ l ≤ 250 ∧ (4 ≤ j → lg j = nI l ∧ wh j = nI (ws j) ∧ ws j + l ≤ 250) ∧ (¬ 4 ≤ j → l = 1) := by
          by_cases c2 : 4 ≤ j
          · obtain ⟨d1, d2, d3, d4, d5⟩ := D.2 j c2 (by omega)
            exact ⟨wl j, d2, by omega, fun _ => ⟨d3, d1, by omega⟩, fun z => absurd c2 z⟩
          · exact ⟨1, D.1 j (by omega), by omega, fun z => absurd z c2, fun _ => rfl⟩
        have e1 : sz (nI j).toNatClampNeg = nI l := by rw [a4, hl]
        have kY : ∀ P : Int32 → Prop, P (nI l) → wpY_lengthOf P (nI ts, nI cc, nI wc, nI ss, tx, bg, wh, lg, pt) (nI j) := by
          intro P hP
          by_cases c2 : 4 ≤ j
          · have e2 : lg (nI j).toNatClampNeg = nI l := by rw [a4, (hD.1 c2).1]
            refine br_t (nI_le (a := 4) c2 hj) ⟨a3, ?_⟩
            rw [e2]; exact hP
          · have e2 := hD.2 c2
            subst e2
            exact br_f (nI_ge (b := 4) (by omega) (by decide)) hP
        refine br_f k0 ⟨a3, ?_⟩
        by_cases k1 : i < l
        · have b1 : nI i < nI l := nI_lt k1 (by omega)
          have b2 : nI i < sz (nI j).toNatClampNeg := by rw [e1]; exact b1
          have hq : 4 ≤ j → wh j = nI (ws j) ∧ ws j + i < 250 := fun z => ⟨(hD.1 z).2.1, by have := (hD.1 z).2.2; omega⟩
          exact br_t b2 (cx_sw (q := ws j) (by omega) hq (br_f c0 (br_f a1 (br_f k0 (kY _ (br_t b1 (cy_sw (q := ws j) (by omega) hq ⟨rfl, J⟩)))))))
        · have b1 : ¬ nI i < nI l := nI_nlt (by omega) hi
          have b2 : ¬ nI i < sz (nI j).toNatClampNeg := by rw [e1]; exact b1
          exact br_f b2 (br_f c0 (br_f a1 (br_f k0 (kY _ (br_f b1 ⟨rfl, J⟩)))))
theorem i_vc_symbol {k : Nat} {u : SX} {v : SY} (I : i_Rel k u v) (hk : k + 3 ≤ 1536) (v1 : Int32) : wpX_symbol (fun r => wpY_symbol (fun r' => r' = r ∧ i_Rel (k + 3) u v) v v1) u v1 := by
  have J := I
  obtain ⟨ts, cc, wc, ss, cs, ws, wl, tx, cd, bg, wh, sz, lg, pt, rfl, rfl, N, K, D⟩ := I
  obtain ⟨n1, n2, n3, n4, n5, n6⟩ := N
  by_cases c0 : v1 < 0
  · exact br_t c0 (br_t c0 ⟨rfl, J⟩)
  · obtain ⟨j, hj, rfl⟩ := nI_of c0
    by_cases c1 : ts ≤ j
    · exact br_f c0 (br_t (nI_le c1 hj) (br_f c0 (br_f (nI_nlt c1 hj) ⟨rfl, J⟩)))
    · have a3 : vp_in (nI j) 250 := vp_in_nI (by omega) (by omega)
      exact br_f c0 (br_f (nI_ge (by omega) (by omega)) ⟨a3, br_f c0 (br_t (nI_lt (by omega) (by omega)) ⟨a3, rfl, J⟩)⟩)
theorem i_vc_count {k : Nat} {u : SX} {v : SY} (I : i_Rel k u v) (hk : k + 3 ≤ 1536) : wpX_count (fun r => wpY_count (fun r' => r' = r ∧ i_Rel (k + 3) u v) v) u := by
  have J := I
  obtain ⟨ts, cc, wc, ss, cs, ws, wl, tx, cd, bg, wh, sz, lg, pt, rfl, rfl, N, K, D⟩ := I
  obtain ⟨n1, n2, n3, n4, n5, n6⟩ := N
  have t1 : (nI ts - nI ss).toInt = (ts : Int) - ss := pk_sub_toInt (by omega) (by omega)
  unfold wpX_count
  dsimp only
  refine cx_ofW (by omega) (by decide) n1 n5 ?_
  unfold wpY_count
  dsimp only
  refine cy_btW (p := 0) n1 (by omega) n1 n5 ⟨?_, J⟩
  rw [t1, show ((ts : Int) - ss + 1).toNat = ts + 1 - ss by omega, show (0 : Int32).toInt.toNat = 0 from rfl]
theorem i_vc_first {k : Nat} {u : SX} {v : SY} (I : i_Rel k u v) (hk : k + 3 ≤ 1536) : wpX_first (fun r => wpY_first (fun r' => r' = r ∧ i_Rel (k + 3) u v) v) u := by
  have J := I
  obtain ⟨ts, cc, wc, ss, cs, ws, wl, tx, cd, bg, wh, sz, lg, pt, rfl, rfl, N, K, D⟩ := I
  obtain ⟨n1, n2, n3, n4, n5, n6⟩ := N
  obtain ⟨r, hX, hY⟩ := cz_first (ts := ts) (ss := ss) (cI := nI cc) (wI := nI wc) (tx := tx) (cd := cd) (wh := wh) (sz := sz) (pt := pt) (bg := bg) (lg := lg) n1 n5 ts 0 (by omega)
  exact ⟨_, hX _ ⟨_, hY _ ⟨rfl, J⟩⟩⟩
theorem i_vc_last {k : Nat} {u : SX} {v : SY} (I : i_Rel k u v) (hk : k + 3 ≤ 1536) : wpX_last (fun r => wpY_last (fun r' => r' = r ∧ i_Rel (k + 3) u v) v) u := by
  have J := I
  obtain ⟨ts, cc, wc, ss, cs, ws, wl, tx, cd, bg, wh, sz, lg, pt, rfl, rfl, N, K, D⟩ := I
  obtain ⟨n1, n2, n3, n4, n5, n6⟩ := N
  obtain ⟨r, hX, hY⟩ := cz_last (ts := ts) (ss := ss) (cI := nI cc) (wI := nI wc) (tx := tx) (cd := cd) (wh := wh) (sz := sz) (pt := pt) (bg := bg) (lg := lg) n1 n5 ts (by omega)
  exact nm_e ⟨_, hX _ (nm_e ⟨_, hY _ ⟨rfl, J⟩⟩)⟩
theorem i_vc_tail {k : Nat} {u : SX} {v : SY} (I : i_Rel k u v) (hk : k + 3 ≤ 1536) : wpX_tail (fun r => wpY_tail (fun r' => r' = r ∧ i_Rel (k + 3) u v) v) u := by
  have J := I
  obtain ⟨ts, cc, wc, ss, cs, ws, wl, tx, cd, bg, wh, sz, lg, pt, rfl, rfl, N, K, D⟩ := I
  obtain ⟨n1, n2, n3, n4, n5, n6⟩ := N
  obtain ⟨r, hX, hY⟩ := cz_tail (ts := ts) (cI := nI cc) (wI := nI wc) (sI := nI ss) (tx := tx) (cd := cd) (wh := wh) (sz := sz) (pt := pt) (bg := bg) (lg := lg) n1 ss n5
  exact ⟨_, hX _ ⟨_, hY _ ⟨rfl, J⟩⟩⟩
theorem i_vc_within {k : Nat} {u : SX} {v : SY} (I : i_Rel k u v) (hk : k + 3 ≤ 1536) : wpX_within (fun r => wpY_within (fun r' => r' = r ∧ i_Rel (k + 3) u v) v) u := by
  have J := I
  obtain ⟨ts, cc, wc, ss, cs, ws, wl, tx, cd, bg, wh, sz, lg, pt, rfl, rfl, N, K, D⟩ := I
  obtain ⟨n1, n2, n3, n4, n5, n6⟩ := N
  obtain ⟨r, hX, hY⟩ := cz_within (ts := ts) (ss := ss) (wI := nI wc) (tx := tx) (wh := wh) (sz := sz) (pt := pt) (lg := lg) K (by omega) n1 n5 cc 0 0 (by omega)
  exact ⟨_, hX _ ⟨_, hY _ ⟨rfl, J⟩⟩⟩
theorem i_vc_endingIn {k : Nat} {u : SX} {v : SY} (I : i_Rel k u v) (hk : k + 3 ≤ 1536) (v1 : Int32) : wpX_endingIn (fun r => wpY_endingIn (fun r' => r' = r ∧ i_Rel (k + 3) u v) v v1) u v1 := by
  have J := I
  obtain ⟨ts, cc, wc, ss, cs, ws, wl, tx, cd, bg, wh, sz, lg, pt, rfl, rfl, N, K, D⟩ := I
  obtain ⟨n1, n2, n3, n4, n5, n6⟩ := N
  by_cases c0 : v1 < 0
  · exact br_t c0 (br_t c0 ⟨rfl, J⟩)
  · obtain ⟨j, hj, rfl⟩ := nI_of c0
    by_cases c1 : j < cc
    · have a1 : nI j < nI cc := nI_lt c1 (by omega)
      have l0 := cq_Kl K (i := j) (by omega)
      have l1 := cq_Kl K (i := j + 1) (by omega)
      have l2 := K.2.2.1 j c1
      have e0 : cd (nI j).toNatClampNeg = nI (cs j) := by rw [cq_ci (by omega)]; exact K.2.2.2.1 _ c1
      have b0 : bg (nI j).toNatClampNeg = nI (cs j) := by rw [cq_ci (by omega)]; exact K.2.2.2.2 _ (by omega)
      have b1 : bg (nI j + 1).toNatClampNeg = nI (cs (j + 1)) := by rw [nI_1, cq_ci (by omega)]; exact K.2.2.2.2 _ (by omega)
      have v1 : vp_in (nI j + 1) 251 := by rw [nI_1]; exact vp_in_nI (by omega) (by omega)
      have t0 : (nI (cs j) - nI ss).toInt = (cs j : Int) - ss := pk_sub_toInt (by omega) (by omega)
      have t2 : (nI (cs j) - nI ss + 1).toInt = (cs j : Int) - ss + 1 := by rw [cq_s (by omega), t0]
      have t1 : (nI (cs (j + 1)) - nI ss).toInt = (cs (j + 1) : Int) - ss := pk_sub_toInt (by omega) (by omega)
      refine br_f c0 (br_t a1 (cx_ce K (by omega) c1 ⟨vp_in_nI (by omega) (by omega), ?_⟩))
      rw [e0]
      refine cx_ofW (by omega) (by omega) n1 n5 (br_f c0 (br_t a1 ⟨v1, ?_⟩))
      rw [b1]
      refine cy_btW (p := 0) (by omega) (by omega) n1 n5 ⟨vp_in_nI (by omega) (by omega), ?_⟩
      rw [b0]
      refine cy_btW (p := 0) (by omega) (by omega) n1 n5 ⟨?_, J⟩
      have m := cq_Cm (cq_o tx pt ts ss) (m := cs j + 1 - ss) (n := cs (j + 1) + 1 - ss) (by omega)
      have z : cq_C (cq_o tx pt ts ss) 0 = 0 := rfl
      rw [t1, t2, show ((cs (j + 1) : Int) - ss + 1).toNat = cs (j + 1) + 1 - ss by omega, show ((cs j : Int) - ss + 1).toNat = cs j + 1 - ss by omega, z, Nat.sub_zero, Nat.sub_zero, pk_sub m]
    · have a1 : ¬ nI j < nI cc := nI_nlt (by omega) hj
      exact br_f c0 (br_f a1 (br_f c0 (br_f a1 ⟨rfl, J⟩)))
theorem i_vc_feed {k : Nat} {u : SX} {v : SY} (I : i_Rel k u v) (hk : k + 3 ≤ 1536) (v1 : Int32) : wpX_feed (fun r u' => wpY_feed (fun r' v' => r' = r ∧ i_Rel (k + 3) u' v') v v1) u v1 := by
  have J := I
  obtain ⟨ts, cc, wc, ss, cs, ws, wl, tx, cd, bg, wh, sz, lg, pt, rfl, rfl, N, K, D⟩ := I
  obtain ⟨n1, n2, n3, n4, n5, n6⟩ := N
  by_cases c0 : v1 < 0
  · exact br_t c0 (br_t c0 ⟨rfl, J⟩)
  · obtain ⟨j, hj, rfl⟩ := nI_of c0
    have hst : ∃ st : Nat, st ≤ ts ∧ (cc = 0 → st = 0) ∧ (0 < cc → cd (cc - 1) = nI st ∧ bg (cc - 1) = nI st) := by
      by_cases h : cc = 0
      · exact ⟨0, by omega, fun _ => rfl, fun z => absurd z (by omega)⟩
      · exact ⟨cs (cc - 1), cq_Kl K (by omega), fun z => absurd z h, fun z => ⟨K.2.2.2.1 _ (by omega), K.2.2.2.2 _ (by omega)⟩⟩
    obtain ⟨st, s1, s2, s3⟩ := hst
    by_cases hm : 0 < cc ∧ wc < 60
    · have hG : ∀ P : Int32 → Prop, P (nI wc) → wpX_greatestCode P (nI ts, nI cc, nI wc, nI ss, tx, cd, wh, sz, pt) := fun P hP => cx_gc1 hm.1 (by omega) hm.2 hP
      by_cases hr : wc < j
      · exact cx_fr hG hr hj (cy_fr hj n4 (by omega) (Or.inr ⟨hm.1, Or.inl hr⟩) ⟨rfl, J⟩)
      · have hw : ∃ n q : Nat, 1 ≤ n ∧ n ≤ 251 ∧ (j < wc → sz j = nI n ∧ (j < 4 → n = 1) ∧ (4 ≤ j → lg j = nI n ∧ wh j = nI q)) ∧ (wc ≤ j → n = ts - st + 1 ∧ q = st) ∧ (4 ≤ j → q + n ≤ ts + 1) := by
          by_cases h : wc ≤ j
          · exact ⟨ts - st + 1, st, by omega, by omega, fun z => absurd z (by omega), fun _ => ⟨rfl, rfl⟩, fun _ => by omega⟩
          · by_cases h4 : 4 ≤ j
            · obtain ⟨d1, d2, d3, d4, d5⟩ := D.2 j h4 (by omega)
              exact ⟨wl j, ws j, d4, by omega, fun _ => ⟨d2, fun z => absurd z (by omega), fun _ => ⟨d3, d1⟩⟩, fun z => absurd z h, fun _ => by omega⟩
            · exact ⟨1, 0, by omega, by omega, fun _ => ⟨D.1 j (by omega), fun _ => rfl, fun z => absurd z h4⟩, fun z => absurd z h, fun z => absurd z h4⟩
        obtain ⟨n, q, w1, w2, w3, w4, w5⟩ := hw
        refine cx_fw (g := wc) (n := n) (st := st) hG (by omega) n4 n4 (by omega) (fun z => (w3 z).1) (fun z => ⟨hm.1, (s3 hm.1).1, s1, (w4 z).1⟩) ?_
        have hY : ∀ P : Int32 → SY → Prop, wY_feed_90 P (nI j) (nI st) (nI n) (nI ts) (nI cc) (nI wc) (nI ss) tx bg wh lg pt → wpY_feed P (nI ts, nI cc, nI wc, nI ss, tx, bg, wh, lg, pt) (nI j) := fun P H =>
          cy_fw (fun z => absurd z (by omega)) (by omega) (fun _ => by omega) n4 (by omega) (fun z => (s3 z).2) s2 (fun z => ⟨(w3 z).2.1, fun z4 => ((w3 z).2.2 z4).1⟩) (fun z => ⟨s1, (w4 z).1⟩) H
        by_cases ht : ts + n ≤ 250
        · refine cx_f37 ht (cx_aw1 hm.1 (by omega) hm.2 (s3 hm.1).1 s1 ?_)
          have z1 : upd sz wc (nI (ts - st + 1)) j = nI n := by
            by_cases h : j = wc
            · rw [h, pk_us, (w4 (by omega)).1]
            · rw [pk_un h]; exact (w3 (by omega)).1
          have z2 : 4 ≤ j → upd wh wc (nI st) j = nI q ∧ q + n ≤ ts + 1 := by
            intro h4
            refine ⟨?_, w5 h4⟩
            by_cases h : j = wc
            · rw [h, pk_us, (w4 (by omega)).2]
            · rw [pk_un h]; exact ((w3 (by omega)).2.2 h4).2
          refine cx_ap (q := q) (by omega) z1 z2 ht (by omega) (hY _ (cy_f90 (q := q) n4 n3 (by omega) (fun h4 z => ((w3 z).2.2 h4).2) (fun z => (w4 z).2) w5 ht (cy_e1 hm.1 hm.2 (by omega) (by omega) s1 ⟨rfl, ?_⟩)))
          exact ⟨ts + n, cc + 1, wc + 1, ss, _, _, _, _, _, _, _, _, _, _, rfl, rfl, ⟨ht, by omega, by omega, by omega, n5, fun z => absurd z (by omega)⟩, cq_Kf K w1, cq_D1 D n3 (by omega) (by omega) (by omega)⟩
        · exact cx_f37n n1 (by omega) (by omega) (hY _ (cy_f90n n1 (by omega) (by omega) ⟨rfl, J⟩))
    · have hm' : cc = 0 ∨ 60 ≤ wc := by omega
      have hG : ∀ P : Int32 → Prop, P (nI (wc - 1)) → wpX_greatestCode P (nI ts, nI cc, nI wc, nI ss, tx, cd, wh, sz, pt) := fun P hP => cx_gc0 hm' (by omega) n4 n3 hP
      by_cases hr : wc ≤ j
      · refine cx_fr hG (by omega) hj (cy_fr hj n4 (by omega) ?_ ⟨rfl, J⟩)
        by_cases h : cc = 0
        · have := n6 h
          exact Or.inl ⟨h, by omega⟩
        · exact Or.inr ⟨by omega, by omega⟩
      · have hw : ∃ n q : Nat, 1 ≤ n ∧ n ≤ 251 ∧ sz j = nI n ∧ (j < 4 → n = 1) ∧ (4 ≤ j → lg j = nI n ∧ wh j = nI q ∧ q + n ≤ ts + 1) := by
          by_cases h4 : 4 ≤ j
          · obtain ⟨d1, d2, d3, d4, d5⟩ := D.2 j h4 (by omega)
            exact ⟨wl j, ws j, d4, by omega, d2, fun z => absurd z (by omega), fun _ => ⟨d3, d1, by omega⟩⟩
          · exact ⟨1, 0, by omega, by omega, D.1 j (by omega), fun _ => rfl, fun z => absurd z h4⟩
        obtain ⟨n, q, w1, w2, w3, w4, w5⟩ := hw
        refine cx_fw (g := wc - 1) (n := n) (st := st) hG (by omega) (by omega) n4 (by omega) (fun _ => w3) (fun z => absurd z hr) ?_
        have hY : ∀ P : Int32 → SY → Prop, wY_feed_90 P (nI j) (nI st) (nI n) (nI ts) (nI cc) (nI wc) (nI ss) tx bg wh lg pt → wpY_feed P (nI ts, nI cc, nI wc, nI ss, tx, bg, wh, lg, pt) (nI j) := fun P H =>
          cy_fw (fun z => by have := n6 z; omega) (by omega) (fun z => absurd z (by omega)) n4 (by omega) (fun z => (s3 z).2) s2 (fun z => ⟨w4, fun z4 => (w5 z4).1⟩) (fun z => absurd z hr) H
        by_cases ht : ts + n ≤ 250
        · refine cx_f37 ht (cx_aw0 hm' (by omega) n4 ?_)
          refine cx_ap (q := q) (by omega) w3 (fun h4 => (w5 h4).2) ht (by omega) (hY _ (cy_f90 (q := q) n4 n3 (by omega) (fun h4 z => (w5 h4).2.1) (fun z => absurd z hr) (fun h4 => (w5 h4).2.2) ht (cy_e0 hm' n4 (by omega) (by omega) ⟨rfl, ?_⟩)))
          exact ⟨ts + n, cc + 1, wc, ss, _, ws, wl, _, _, _, wh, sz, lg, pt, rfl, rfl, ⟨ht, by omega, n3, n4, n5, fun z => absurd z (by omega)⟩, cq_Kf K w1, cq_Dn D (by omega)⟩
        · exact cx_f37n n1 (by omega) (by omega) (hY _ (cy_f90n n1 (by omega) (by omega) ⟨rfl, J⟩))
end
