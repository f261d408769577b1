/-! the relation's pieces: sizes (cq_N), where the codes begin (cq_K), the dictionary (cq_D), the text after a code (cq_fl) -/
def cq_N (ts cc wc ss : Nat) : Prop := ts ≤ 250 ∧ cc ≤ ts ∧ 4 ≤ wc ∧ wc ≤ 60 ∧ ss ≤ 6 ∧ (cc = 0 → wc = 4)
def cq_K (ts cc : Nat) (cs : Nat → Nat) (cd bg : Nat → Int32) : Prop :=
  cs 0 = 0 ∧ cs cc = ts ∧ (∀ i, i < cc → cs i < cs (i + 1)) ∧ (∀ i, i < cc → cd i = nI (cs i)) ∧ (∀ i, i ≤ cc → bg i = nI (cs i))
def cq_D (ts wc : Nat) (ws wl : Nat → Nat) (wh sz lg : Nat → Int32) : Prop :=
  (∀ w, w < 4 → sz w = 1) ∧ ∀ w, 4 ≤ w → w < wc → wh w = nI (ws w) ∧ sz w = nI (wl w) ∧ lg w = nI (wl w) ∧ 1 ≤ wl w ∧ ws w + wl w ≤ ts
theorem cq_Kd {cs : Nat → Nat} {cc : Nat} (h : ∀ i, i < cc → cs i < cs (i + 1)) : ∀ d i : Nat, i + d = cc → cs i + d ≤ cs cc := by
  intro d
  induction d with
  | zero => intro i hi; rw [show i = cc by omega]; exact Nat.le_refl _
  | succ d ih =>
    intro i hi
    have a := h i (by omega)
    have b := ih (i + 1) (by omega)
    omega
theorem cq_Kl {ts cc : Nat} {cs : Nat → Nat} {cd bg : Nat → Int32} (K : cq_K ts cc cs cd bg) {i : Nat} (hi : i ≤ cc) : cs i ≤ ts := by
  have a := cq_Kd K.2.2.1 (cc - i) i (by omega)
  have b := K.2.1
  omega
theorem cq_Kf {ts cc n : Nat} {cs : Nat → Nat} {cd bg : Nat → Int32} (K : cq_K ts cc cs cd bg) (hn : 1 ≤ n) :
    cq_K (ts + n) (cc + 1) (fun i => if i = cc + 1 then ts + n else cs i) (upd cd cc (nI ts)) (upd (upd bg cc (nI ts)) (cc + 1) (nI (ts + n))) := by
  obtain ⟨k0, k1, k2, k3, k4⟩ := K
  refine ⟨?_, ?_, ?_, ?_, ?_⟩
  · show (if 0 = cc + 1 then ts + n else cs 0) = 0
    rw [if_neg (by omega)]; exact k0
  · show (if cc + 1 = cc + 1 then ts + n else cs (cc + 1)) = ts + n
    rw [if_pos rfl]
  · intro i hi
    show (if i = cc + 1 then ts + n else cs i) < (if i + 1 = cc + 1 then ts + n else cs (i + 1))
    rw [if_neg (show ¬ i = cc + 1 by omega)]
    by_cases e : i = cc
    · rw [if_pos (by omega), e, k1]; omega
    · rw [if_neg (by omega)]; exact k2 i (by omega)
  · intro i hi
    show upd cd cc (nI ts) i = nI (if i = cc + 1 then ts + n else cs i)
    rw [if_neg (show ¬ i = cc + 1 by omega)]
    by_cases e : i = cc
    · rw [e, pk_us, k1]
    · rw [pk_un e]; exact k3 i (by omega)
  · intro i hi
    show upd (upd bg cc (nI ts)) (cc + 1) (nI (ts + n)) i = nI (if i = cc + 1 then ts + n else cs i)
    by_cases e : i = cc + 1
    · rw [e, pk_us, if_pos rfl]
    · rw [pk_un e, if_neg e]
      by_cases e2 : i = cc
      · rw [e2, pk_us, k1]
      · rw [pk_un e2]; exact k4 i (by omega)
theorem cq_K0 {ts cc : Nat} {cs : Nat → Nat} {cd bg : Nat → Int32} (K : cq_K ts cc cs cd bg) : cq_K 0 0 cs cd bg := by
  obtain ⟨k0, k1, k2, k3, k4⟩ := K
  exact ⟨k0, k0, fun i hi => absurd hi (Nat.not_lt_zero i), fun i hi => absurd hi (Nat.not_lt_zero i), fun i hi => k4 i (by omega)⟩
theorem cq_Dn {ts ts' wc : Nat} {ws wl : Nat → Nat} {wh sz lg : Nat → Int32} (D : cq_D ts wc ws wl wh sz lg) (h : ts ≤ ts') : cq_D ts' wc ws wl wh sz lg :=
  ⟨D.1, fun w h4 hw => let ⟨a, b, c, d, e⟩ := D.2 w h4 hw; ⟨a, b, c, d, Nat.le_trans e h⟩⟩
theorem cq_D0 {ts wc : Nat} {ws wl : Nat → Nat} {wh sz lg : Nat → Int32} (D : cq_D ts wc ws wl wh sz lg) : cq_D 0 4 ws wl wh sz lg :=
  ⟨D.1, fun w h4 hw => absurd hw (by omega)⟩
theorem cq_D1 {ts ts' wc st l : Nat} {ws wl : Nat → Nat} {wh sz lg : Nat → Int32} (D : cq_D ts wc ws wl wh sz lg) (h4 : 4 ≤ wc) (h : ts ≤ ts') (hl : 1 ≤ l) (hs : st + l ≤ ts') :
    cq_D ts' (wc + 1) (fun w => if w = wc then st else ws w) (fun w => if w = wc then l else wl w) (upd wh wc (nI st)) (upd sz wc (nI l)) (upd lg wc (nI l)) := by
  refine ⟨fun w hw => ?_, fun w w4 hw => ?_⟩
  · rw [pk_un (show w ≠ wc by omega)]; exact D.1 w hw
  · show upd wh wc (nI st) w = nI (if w = wc then st else ws w) ∧ upd sz wc (nI l) w = nI (if w = wc then l else wl w) ∧ upd lg wc (nI l) w = nI (if w = wc then l else wl w) ∧ 1 ≤ (if w = wc then l else wl w) ∧ (if w = wc then st else ws w) + (if w = wc then l else wl w) ≤ ts'
    by_cases e : w = wc
    · subst e
      rw [if_pos rfl, if_pos rfl, pk_us, pk_us, pk_us]
      exact ⟨rfl, rfl, rfl, hl, hs⟩
    · rw [if_neg e, if_neg e, pk_un e, pk_un e, pk_un e]
      obtain ⟨a, b, c, d, f⟩ := D.2 w w4 (by omega)
      exact ⟨a, b, c, d, by omega⟩
def cq_fl (j q ts : Nat) (tx : Nat → Int32) : Nat → Nat → Int32
  | 0 => tx
  | i + 1 => upd (cq_fl j q ts tx i) (ts + i) (if j < 4 then nI j else cq_fl j q ts tx i (q + i))
