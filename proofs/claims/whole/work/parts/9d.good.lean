/-! A BOOK THAT GROWS STAYS RIGHT -/
def gB (B : Bk) : Prop := wfB B ∧ lwB B ∧ nmB B ∧ bth B ≤ bna B ∧ (∀ i, i < B.1 17 (bna B) → B.1 16 i < 128) ∧ bfi B (bma B) ≤ 40 * bma B
theorem typ_ext {B B' : Bk} {t : Nat} (h : typ B t) (e7 : bop B' t = bop B t) (e8 : bso B' t = bso B t) (e9 : bfi B' t = bfi B t) (e9' : bfi B' (t + 1) = bfi B (t + 1)) (e11 : blo B' t = blo B t) (e2 : B'.2 t = B.2 t)
    (ea : ∀ i, bfi B t ≤ i → i < bfi B (t + 1) → bso B' (bar B' i) = bso B (bar B i)) (et : bth B ≤ bth B') (e19 : ∀ i, i < bth B → btt B' i = btt B i) : typ B' t := by
  have ea' : ∀ i, i < bfi B (t + 1) - bfi B t → bso B' (bar B' (bfi B t + i)) = bso B (bar B (bfi B t + i)) := fun i hi => ea _ (by omega) (by omega)
  unfold typ at h ⊢
  dsimp only at h ⊢
  rw [e7, e8, e9, e9', e11, e2]
  generalize bfi B (t + 1) - bfi B t = n at h ea' ⊢
  generalize hs : (fun i => bso B (bar B (bfi B t + i))) = s at h
  generalize hs' : (fun i => bso B' (bar B' (bfi B t + i))) = s'
  have hx : ∀ i, i < n → s' i = s i := fun i hi => by rw [← hs, ← hs']; exact ea' i hi
  have f0 : ∀ i, bso B (bar B (bfi B t + i)) = s i := fun i => by rw [← hs]
  have f1 : ∀ i, bso B' (bar B' (bfi B t + i)) = s' i := fun i => by rw [← hs']
  simp only [f0] at h
  simp only [f1]
  have one : ∀ {P : Nat → Prop}, n = 1 ∧ P (s 0) → n = 1 ∧ P (s' 0) := fun {P} q => ⟨q.1, by rw [hx 0 (by omega)]; exact q.2⟩
  have alq : ∀ {P : Nat → Prop}, 2 ≤ n → (∀ i, i < n → P (s i)) → ∀ i, i < n → P (s' i) := fun {P} _ q i hi => by rw [hx i hi]; exact q i hi
  split at h
  case h_1 => exact ⟨h.1, by omega, by rw [e19 _ h.2.1]; exact h.2.2⟩
  case h_2 => exact h
  all_goals first
    | (have e0 := hx 0 (by omega); omega)
    | (have e0 := hx 0 (by omega); have e1 := hx 1 (by omega); omega)
    | (have e0 := hx 0 (by omega); have e1 := hx 1 (by omega); have e2 := hx 2 (by omega); omega)
    | exact ⟨h.1, fun i hi => by rw [hx i hi]; exact h.2.1 i hi, h.2.2⟩
    | exact ⟨h.1, fun i hi => by rw [hx i hi, hx 0 (by omega)]; exact h.2.1 i hi, h.2.2⟩
    | exact ⟨h.1, fun i hi => by rw [hx i hi]; exact h.2.1 i hi, by rw [h.2.2.1]; exact congrArg List.sum (List.map_congr_left (fun i hi => (hx i (List.mem_range.mp hi)).symm)), h.2.2.2⟩
theorem wf_up {B B' : Bk} (w : wfB B) (x : bex B B') (hm : bma B' ≤ 2000) (hf : bfi B' (bma B') ≤ 80000) (hth : bth B' ≤ 500) (has : bas B' ≤ 500) (hna : bna B' ≤ 500) (hwe : bwe B' ≤ 100000) (m1 : bfi B (bma B) ≤ bfi B' (bma B')) (m2 : bsz B ≤ bsz B')
    (nt : ∀ t, bma B ≤ t → t < bma B' → bfi B' t ≤ bfi B' (t + 1) ∧ bfi B' (t + 1) ≤ bfi B' (bma B') ∧ (∀ i, bfi B' t ≤ i → i < bfi B' (t + 1) → bar B' i < t) ∧ okS (bso B' t) ∧ typ B' t ∧ (128 ≤ bso B' t → szs (bso B' t) ≤ bsz B'))
    (nh : ∀ i, bth B ≤ i → i < bth B' → btt B' i < bma B' ∧ bop B' (btt B' i) = 47 ∧ blo B' (btt B' i) = i ∧ bbe B' (i + 1) = bbe B' i + szs (bso B' (btt B' i)))
    (na : ∀ i, bas B ≤ i → i < bas B' → bsd B' i < bma B' ∧ bso B' (bsd B' i) = 0) : wfB B' := by
  obtain ⟨⟨a1, a2, a3, a4, a5, a6, a7⟩, b, c, d, e, f, g⟩ := w
  have x9 : ∀ t, t ≤ bma B → bfi B' t = bfi B t := fun t ht => x.1 9 t (Nat.lt_succ_of_le ht)
  have x10 : ∀ i, i < bfi B (bma B) → bar B' i = bar B i := fun i hi => x.1 10 i hi
  have x19 : ∀ i, i < bth B → btt B' i = btt B i := fun i hi => x.1 19 i hi
  have x21 : ∀ i, i ≤ bth B → bbe B' i = bbe B i := fun i hi => x.1 21 i (Nat.lt_succ_of_le hi)
  have x22 : ∀ i, i < bas B → bsd B' i = bsd B i := fun i hi => x.1 22 i hi
  have xm := x.ma
  refine ⟨⟨hm, hf, by rw [x9 0 (Nat.zero_le _)]; exact a3, hth, has, hna, hwe⟩, fun t ht => ?_, fun t ht i i1 i2 => ?_, fun t ht => ?_, fun i hi => ?_, by rw [x21 0 (Nat.zero_le _)]; exact f, fun i hi => ?_⟩
  · by_cases q : t < bma B
    · have := b t q
      rw [x9 t (by omega), x9 (t + 1) q]
      exact ⟨this.1, by omega⟩
    · have := nt t (by omega) ht
      exact ⟨this.1, this.2.1⟩
  · by_cases q : t < bma B
    · rw [x9 t (by omega)] at i1
      rw [x9 (t + 1) q] at i2
      have := b t q
      rw [x10 i (by omega)]
      exact c t q i i1 i2
    · exact (nt t (by omega) ht).2.2.1 i i1 i2
  · by_cases q : t < bma B
    · obtain ⟨d1, d2, d3⟩ := d t q
      have := b t q
      refine ⟨by rw [x.so q]; exact d1, ?_, fun z => ?_⟩
      · refine typ_ext d2 (x.op q) (x.so q) (x9 t (by omega)) (x9 (t + 1) q) (x.1 11 t q) (x.2.1 t q) (fun i i1 i2 => ?_) x.th x19
        rw [x10 i (by omega)]
        have := c t q i i1 i2
        exact x.so (by omega)
      · rw [x.so q] at z ⊢
        exact Nat.le_trans (d3 z) m2
    · exact (nt t (by omega) ht).2.2.2
  · by_cases q : i < bth B
    · obtain ⟨e1, e2, e3, e4⟩ := e i q
      rw [x19 i q]
      refine ⟨by omega, by rw [x.op e1]; exact e2, (x.1 11 _ e1).trans e3, ?_⟩
      rw [x21 (i + 1) q, x21 i (by omega), x.so e1]
      exact e4
    · exact nh i (by omega) hi
  · by_cases q : i < bas B
    · obtain ⟨g1, g2⟩ := g i q
      rw [x22 i q]
      exact ⟨by omega, by rw [x.so g1]; exact g2⟩
    · exact na i (by omega) hi
theorem lw_up {B B' : Bk} (w : wfB B) (l : lwB B) (x : bex B B') (nt : ∀ t, bma B ≤ t → t < bma B' → blw B' t ≤ t ∧ ∀ i, bfi B' t ≤ i → i < bfi B' (t + 1) → bop B' (bar B' i) ≠ 47 → blw B' t ≤ blw B' (bar B' i)) : lwB B' := by
  intro t ht
  by_cases q : t < bma B
  · have x9 : ∀ t, t ≤ bma B → bfi B' t = bfi B t := fun t ht => x.1 9 t (Nat.lt_succ_of_le ht)
    have x10 : ∀ i, i < bfi B (bma B) → bar B' i = bar B i := fun i hi => x.1 10 i hi
    have x14 : ∀ i, i < bma B → blw B' i = blw B i := fun i hi => x.1 14 i hi
    obtain ⟨l1, l2⟩ := l t q
    rw [x14 t q, x9 t (by omega), x9 (t + 1) q]
    refine ⟨l1, fun i i1 i2 o => ?_⟩
    have := wf_fi w q
    have ai := wf_ar w q i1 i2
    rw [x10 i (by omega)] at o ⊢
    rw [x.op (by omega)] at o
    rw [x14 _ (by omega)]
    exact l2 i i1 i2 o
  · exact nt t (by omega) ht
section GROW
variable {B : Bk} {op so lo : Nat} {bits : BitVec 64} {as : List Nat} {t w : Nat} {ws : List Nat}
theorem aT_f : bfi (addT B op so lo bits as) (bma B + 1) = bfi B (bma B) + as.length := by
  show (addT B op so lo bits as).1 9 _ = _
  rw [aT_9, if_pos rfl]
theorem aT_f0 : bfi (addT B op so lo bits as) (bma B) = bfi B (bma B) := by
  show (addT B op so lo bits as).1 9 _ = _
  rw [aT_9, if_neg (by omega)]
theorem aT_a {i : Nat} (h : i < as.length) : bar (addT B op so lo bits as) (bfi B (bma B) + i) = as.getD i 0 := by
  show (addT B op so lo bits as).1 10 _ = _
  rw [aT_10, if_pos (by omega), Nat.add_sub_cancel_left]
theorem aT_th : bth (addT B op so lo bits as) = bth B := aT_5 8
theorem aT_sz : bsz (addT B op so lo bits as) = bsz B := by
  show (addT B op so lo bits as).1 21 (bth _) = _
  rw [aT_th]
  exact aT_k (by decide) _
theorem getD_mem {i : Nat} (h : i < as.length) : as.getD i 0 ∈ as := by
  rw [List.getD_eq_getElem?_getD, List.getElem?_eq_getElem h]
  exact List.getElem_mem h
theorem lwo_le (as : List Nat) : ∀ m, lwo B as m ≤ m ∧ ∀ a ∈ as, bop B a ≠ 47 → lwo B as m ≤ blw B a := by
  induction as with
  | nil => intro m; exact ⟨Nat.le_refl _, fun a h => absurd h (by simp)⟩
  | cons a as ih =>
    intro m
    have e : lwo B (a :: as) m = lwo B as (if bop B a ≠ 47 ∧ blw B a < m then blw B a else m) := rfl
    have := ih (if bop B a ≠ 47 ∧ blw B a < m then blw B a else m)
    rw [e]
    have le : (if bop B a ≠ 47 ∧ blw B a < m then blw B a else m) ≤ m := by split <;> omega
    refine ⟨by omega, fun a' h o => ?_⟩
    rcases List.mem_cons.mp h with q | q
    · rw [q]
      have : (if bop B a ≠ 47 ∧ blw B a < m then blw B a else m) ≤ blw B a := by
        rw [q] at o
        split
        · omega
        · rename_i z
          have : ¬ blw B a < m := fun y => z ⟨o, y⟩
          omega
      omega
    · exact this.2 a' q o
theorem g_T (g : gB B) (hm : bma B < 2000) (ha : ∀ a ∈ as, a < bma B) (hl : as.length ≤ 40) (hs : okS so) (ht : typ (addT B op so lo bits as) (bma B)) (hz : 128 ≤ so → szs so ≤ bsz B) : gB (addT B op so lo bits as) := by
  obtain ⟨w, l, n, h1, h2, h3⟩ := g
  have x : bex B (addT B op so lo bits as) := bex_T
  have fe : bfi (addT B op so lo bits as) (bma (addT B op so lo bits as)) = bfi B (bma B) + as.length := by rw [aT_m]; exact aT_f
  have en : bna (addT B op so lo bits as) = bna B := aT_5 4
  have e17 : ∀ j, (addT B op so lo bits as).1 17 j = B.1 17 j := aT_k (by decide)
  have ar : ∀ i, bfi B (bma B) ≤ i → i < bfi B (bma B) + as.length → bar (addT B op so lo bits as) i ∈ as := fun i i1 i2 => by
    rw [show i = bfi B (bma B) + (i - bfi B (bma B)) by omega, aT_a (by omega)]
    exact getD_mem (by omega)
  refine ⟨?_, ?_, ?_, by rw [aT_th, en]; exact h1, ?_, by rw [fe, aT_m]; omega⟩
  · refine wf_up w x (by rw [aT_m]; omega) (by rw [fe]; omega) (by rw [aT_th]; exact w.1.2.2.2.1) (by rw [show bas (addT B op so lo bits as) = bas B from aT_5 10]; exact w.1.2.2.2.2.1) (by rw [en]; exact w.1.2.2.2.2.2.1) (by rw [aT_w]; exact w.1.2.2.2.2.2.2) (by rw [fe]; omega) (by rw [aT_sz]; exact Nat.le_refl _) (fun t t1 t2 => ?_) (fun i i1 i2 => absurd i2 (by rw [aT_th]; omega)) (fun i i1 i2 => absurd i2 (by rw [show bas (addT B op so lo bits as) = bas B from aT_5 10]; omega))
    have et : t = bma B := by rw [aT_m] at t2; omega
    subst et
    have es : bso (addT B op so lo bits as) (bma B) = so := by show (addT B op so lo bits as).1 8 _ = _; rw [aT_8, if_pos rfl]
    rw [fe, aT_f, aT_f0, aT_sz, es]
    exact ⟨by omega, by omega, fun i i1 i2 => ha _ (ar i i1 i2), hs, ht, hz⟩
  · refine lw_up w l x (fun t t1 t2 => ?_)
    have et : t = bma B := by rw [aT_m] at t2; omega
    subst et
    have el : blw (addT B op so lo bits as) (bma B) = lwo B as (bma B) := by show (addT B op so lo bits as).1 14 _ = _; rw [aT_14, if_pos rfl]
    rw [aT_f, aT_f0, el]
    have ll := lwo_le (B := B) as (bma B)
    refine ⟨ll.1, fun i i1 i2 o => ?_⟩
    have am := ar i i1 i2
    have al := ha _ am
    rw [x.op al] at o
    rw [show blw (addT B op so lo bits as) (bar (addT B op so lo bits as) i) = blw B (bar (addT B op so lo bits as) i) from x.1 14 _ al]
    exact ll.2 _ am o
  · obtain ⟨n1, n2, n3, n4, n5⟩ := n
    unfold nmB
    rw [en, aT_th, aT_m]
    refine ⟨fun i hi => ?_, (e17 0).trans n2, fun i hi => by rw [e17, e17]; exact n3 i hi, by rw [e17]; exact n4, fun i hi => ?_⟩
    · rw [aT_k (k := 18) (by decide)]
      have := n1 i hi
      omega
    · rw [aT_k (k := 20) (by decide)]
      exact n5 i hi
  · intro i hi
    rw [en, e17] at hi
    rw [aT_k (k := 16) (by decide)]
    exact h2 i hi
theorem g_W (g : gB B) (h : w ≤ 100000) : gB (wtB B w) := by
  obtain ⟨wf, l, n, h1, h2, h3⟩ := g
  have ek : ∀ k j, k ≠ 6 → (wtB B w).1 k j = B.1 k j := fun k j h => wB_k (fun z => h z.1)
  have em : bma (wtB B w) = bma B := wB_k (by decide)
  have e5 : ∀ j, (wtB B w).1 5 j = B.1 5 j := fun j => ek 5 j (by decide)
  have ef : ∀ j, bfi (wtB B w) j = bfi B j := fun j => ek 9 j (by decide)
  have et : bth (wtB B w) = bth B := e5 8
  have en : bna (wtB B w) = bna B := e5 4
  have ea : bas (wtB B w) = bas B := e5 10
  have es : bsz (wtB B w) = bsz B := by show (wtB B w).1 21 (bth _) = _; rw [et]; exact ek 21 _ (by decide)
  refine ⟨?_, ?_, ?_, by rw [et, en]; exact h1, ?_, by rw [em, ef]; exact h3⟩
  · exact wf_up wf bex_W (by rw [em]; exact wf.1.1) (by rw [em, ef]; exact wf.1.2.1) (by rw [et]; exact wf.1.2.2.2.1) (by rw [ea]; exact wf.1.2.2.2.2.1) (by rw [en]; exact wf.1.2.2.2.2.2.1) (by rw [wB_w]; exact h) (by rw [em, ef]; exact Nat.le_refl _) (by rw [es]; exact Nat.le_refl _) (fun t t1 t2 => absurd t2 (by rw [em]; omega)) (fun i i1 i2 => absurd i2 (by rw [et]; omega)) (fun i i1 i2 => absurd i2 (by rw [ea]; omega))
  · exact lw_up wf l bex_W (fun t t1 t2 => absurd t2 (by rw [em]; omega))
  · obtain ⟨n1, n2, n3, n4, n5⟩ := n
    unfold nmB
    rw [en, et, em]
    exact ⟨fun i hi => by rw [ek 18 _ (by decide)]; exact n1 i hi, by rw [ek 17 _ (by decide)]; exact n2, fun i hi => by rw [ek 17 _ (by decide), ek 17 _ (by decide)]; exact n3 i hi, by rw [ek 17 _ (by decide)]; exact n4, fun i hi => by rw [ek 20 _ (by decide)]; exact n5 i hi⟩
  · intro i hi
    rw [en, ek 17 _ (by decide)] at hi
    rw [ek 16 _ (by decide)]
    exact h2 i hi
theorem g_A (g : gB B) (h : bas B < 500) (ht : t < bma B) (hs : bso B t = 0) : gB (addAs B t) := by
  obtain ⟨wf, l, n, h1, h2, h3⟩ := g
  have ek : ∀ k j, k ≠ 5 → k ≠ 22 → (addAs B t).1 k j = B.1 k j := fun k j h h' => aA_k ⟨h, h'⟩ j
  have em : bma (addAs B t) = bma B := ek 6 9 (by decide) (by decide)
  have ef : ∀ j, bfi (addAs B t) j = bfi B j := fun j => ek 9 j (by decide) (by decide)
  have et : bth (addAs B t) = bth B := by show (addAs B t).1 5 8 = _; rw [aA_5, if_neg (by decide)]
  have en : bna (addAs B t) = bna B := by show (addAs B t).1 5 4 = _; rw [aA_5, if_neg (by decide)]
  have ea : bas (addAs B t) = bas B + 1 := by show (addAs B t).1 5 10 = _; rw [aA_5, if_pos rfl]
  have ew : bwe (addAs B t) = bwe B := ek 6 10 (by decide) (by decide)
  have es : bsz (addAs B t) = bsz B := by show (addAs B t).1 21 (bth _) = _; rw [et]; exact ek 21 _ (by decide) (by decide)
  refine ⟨?_, ?_, ?_, by rw [et, en]; exact h1, ?_, by rw [em, ef]; exact h3⟩
  · refine wf_up wf bex_A (by rw [em]; exact wf.1.1) (by rw [em, ef]; exact wf.1.2.1) (by rw [et]; exact wf.1.2.2.2.1) (by rw [ea]; omega) (by rw [en]; exact wf.1.2.2.2.2.2.1) (by rw [ew]; exact wf.1.2.2.2.2.2.2) (by rw [em, ef]; exact Nat.le_refl _) (by rw [es]; exact Nat.le_refl _) (fun t t1 t2 => absurd t2 (by rw [em]; omega)) (fun i i1 i2 => absurd i2 (by rw [et]; omega)) (fun i i1 i2 => ?_)
    have ei : i = bas B := by rw [ea] at i2; omega
    have e22 : bsd (addAs B t) i = t := by show (addAs B t).1 22 i = t; rw [aA_22, if_pos ei]
    rw [e22, em]
    exact ⟨ht, by rw [show bso (addAs B t) t = bso B t from ek 8 t (by decide) (by decide)]; exact hs⟩
  · exact lw_up wf l bex_A (fun t t1 t2 => absurd t2 (by rw [em]; omega))
  · obtain ⟨n1, n2, n3, n4, n5⟩ := n
    unfold nmB
    rw [en, et, em]
    exact ⟨fun i hi => by rw [ek 18 _ (by decide) (by decide)]; exact n1 i hi, by rw [ek 17 _ (by decide) (by decide)]; exact n2, fun i hi => by rw [ek 17 _ (by decide) (by decide), ek 17 _ (by decide) (by decide)]; exact n3 i hi, by rw [ek 17 _ (by decide) (by decide)]; exact n4, fun i hi => by rw [ek 20 _ (by decide) (by decide)]; exact n5 i hi⟩
  · intro i hi
    rw [en, ek 17 _ (by decide) (by decide)] at hi
    rw [ek 16 _ (by decide) (by decide)]
    exact h2 i hi
/-- names, where the things may wait for one -/
def gN (B : Bk) : Prop := wfB B ∧ lwB B ∧ ((∀ n, n < bna B → B.1 18 n < bma B) ∧ B.1 17 0 = 0 ∧ (∀ n, n < bna B → B.1 17 n ≤ B.1 17 (n + 1)) ∧ B.1 17 (bna B) ≤ 65536 ∧ ∀ i, i < bth B → B.1 20 i ≤ bna B) ∧ bth B ≤ bna B + 1 ∧ (∀ i, i < B.1 17 (bna B) → B.1 16 i < 128) ∧ bfi B (bma B) ≤ 40 * bma B
theorem gB.N (g : gB B) : gN B := ⟨g.1, g.2.1, ⟨g.2.2.1.1, g.2.2.1.2.1, g.2.2.1.2.2.1, g.2.2.1.2.2.2.1, fun i hi => Nat.le_of_lt (g.2.2.1.2.2.2.2 i hi)⟩, Nat.le_succ_of_le g.2.2.2.1, g.2.2.2.2⟩
theorem g_N (g : gN B) (h : bna B < 500) (hr : B.1 17 (bna B) + ws.length ≤ 65536) (hw : ∀ i, i < ws.length → ws.getD i 0 < 128) (ht : t < bma B) : gB (addNm B ws t) := by
  obtain ⟨wf, l, n, h1, h2, h3⟩ := g
  have ek : ∀ k j, k ≠ 5 → k ≠ 16 → k ≠ 17 → k ≠ 18 → (addNm B ws t).1 k j = B.1 k j := fun k j h h' h'' h3 => aN_k ⟨h, h', h'', h3⟩ j
  have em : bma (addNm B ws t) = bma B := ek 6 9 (by decide) (by decide) (by decide) (by decide)
  have ef : ∀ j, bfi (addNm B ws t) j = bfi B j := fun j => ek 9 j (by decide) (by decide) (by decide) (by decide)
  have et : bth (addNm B ws t) = bth B := by show (addNm B ws t).1 5 8 = _; rw [aN_5, if_neg (by decide)]
  have en : bna (addNm B ws t) = bna B + 1 := by show (addNm B ws t).1 5 4 = _; rw [aN_5, if_pos rfl]
  have ea : bas (addNm B ws t) = bas B := by show (addNm B ws t).1 5 10 = _; rw [aN_5, if_neg (by decide)]
  have ew : bwe (addNm B ws t) = bwe B := ek 6 10 (by decide) (by decide) (by decide) (by decide)
  have es : bsz (addNm B ws t) = bsz B := by show (addNm B ws t).1 21 (bth _) = _; rw [et]; exact ek 21 _ (by decide) (by decide) (by decide) (by decide)
  refine ⟨?_, ?_, ?_, by rw [et, en]; exact h1, ?_, by rw [em, ef]; exact h3⟩
  · exact wf_up wf bex_N (by rw [em]; exact wf.1.1) (by rw [em, ef]; exact wf.1.2.1) (by rw [et]; exact wf.1.2.2.2.1) (by rw [ea]; exact wf.1.2.2.2.2.1) (by rw [en]; omega) (by rw [ew]; exact wf.1.2.2.2.2.2.2) (by rw [em, ef]; exact Nat.le_refl _) (by rw [es]; exact Nat.le_refl _) (fun t t1 t2 => absurd t2 (by rw [em]; omega)) (fun i i1 i2 => absurd i2 (by rw [et]; omega)) (fun i i1 i2 => absurd i2 (by rw [ea]; omega))
  · exact lw_up wf l bex_N (fun t t1 t2 => absurd t2 (by rw [em]; omega))
  · obtain ⟨n1, n2, n3, n4, n5⟩ := n
    unfold nmB
    rw [en, et, em]
    refine ⟨fun i hi => ?_, ?_, fun i hi => ?_, ?_, fun i hi => ?_⟩
    · rw [aN_18]
      split
      · exact ht
      · exact n1 i (by omega)
    · rw [aN_17, if_neg (by omega)]; exact n2
    · rw [aN_17, aN_17]
      by_cases q : i = bna B
      · rw [if_neg (by omega), if_pos (by omega), q]; omega
      · rw [if_neg (by omega), if_neg (by omega)]; exact n3 i (by omega)
    · rw [aN_17, if_pos rfl]; exact hr
    · rw [ek 20 _ (by decide) (by decide) (by decide) (by decide)]
      have := n5 i hi
      omega
  · intro i hi
    rw [en, aN_17, if_pos rfl] at hi
    rw [aN_16]
    split
    · exact hw _ (by omega)
    · exact h2 i (by omega)
/-- a thing -/
theorem g_H (g : gB B) (hm : bma B < 2000) (hn : bna B < 500) (hs : okS so) : gN (addTh (addT B 47 so (bth B) 0#64 []) (bma B)) := by
  obtain ⟨wf, l, n, h1, h2, h3⟩ := g
  obtain ⟨C, hC⟩ : ∃ C, C = addT B 47 so (bth B) 0#64 [] := ⟨_, rfl⟩
  rw [← hC]
  have x : bex B C := by rw [hC]; exact bex_T
  have cm : bma C = bma B + 1 := by rw [hC]; exact aT_m
  have ct : bth C = bth B := by rw [hC]; exact aT_th
  have cn : bna C = bna B := by rw [hC]; exact aT_5 4
  have ca : bas C = bas B := by rw [hC]; exact aT_5 10
  have cw : bwe C = bwe B := by rw [hC]; exact aT_w
  have cf : bfi C (bma B + 1) = bfi B (bma B) := by rw [hC, aT_f]; rfl
  have cf0 : bfi C (bma B) = bfi B (bma B) := by rw [hC]; exact aT_f0
  have c7 : bop C (bma B) = 47 := by rw [hC]; show (addT B 47 so (bth B) 0#64 []).1 7 _ = _; rw [aT_7, if_pos rfl]
  have c8 : bso C (bma B) = so := by rw [hC]; show (addT B 47 so (bth B) 0#64 []).1 8 _ = _; rw [aT_8, if_pos rfl]
  have c11 : blo C (bma B) = bth B := by rw [hC]; show (addT B 47 so (bth B) 0#64 []).1 11 _ = _; rw [aT_11, if_pos rfl]
  have c14 : blw C (bma B) = bma B := by rw [hC]; show (addT B 47 so (bth B) 0#64 []).1 14 _ = _; rw [aT_14, if_pos rfl]; rfl
  have cs : bsz C = bsz B := by rw [hC]; exact aT_sz
  have ck : ∀ k j, 16 ≤ k → C.1 k j = B.1 k j := fun k j h => by rw [hC]; exact aT_k h j
  have ek : ∀ k j, k ≠ 5 → k ≠ 19 → k ≠ 20 → k ≠ 21 → (addTh C (bma B)).1 k j = C.1 k j := fun k j h h' h'' h3 => aH_k ⟨h, h', h'', h3⟩ j
  have em : bma (addTh C (bma B)) = bma B + 1 := (ek 6 9 (by decide) (by decide) (by decide) (by decide)).trans cm
  have ef : ∀ j, bfi (addTh C (bma B)) j = bfi C j := fun j => ek 9 j (by decide) (by decide) (by decide) (by decide)
  have et : bth (addTh C (bma B)) = bth B + 1 := by show (addTh C (bma B)).1 5 8 = _; rw [aH_5, if_pos rfl, ct]
  have en : bna (addTh C (bma B)) = bna B := by show (addTh C (bma B)).1 5 4 = _; rw [aH_5, if_neg (by decide)]; exact cn
  have ea : bas (addTh C (bma B)) = bas B := by show (addTh C (bma B)).1 5 10 = _; rw [aH_5, if_neg (by decide)]; exact ca
  have ew : bwe (addTh C (bma B)) = bwe B := (ek 6 10 (by decide) (by decide) (by decide) (by decide)).trans cw
  have es : bsz (addTh C (bma B)) = bsz B + szs so := by show (addTh C (bma B)).1 21 (bth _) = _; rw [et, aH_21, ct, if_pos rfl, cs, c8]
  have e19 : btt (addTh C (bma B)) (bth B) = bma B := by show (addTh C (bma B)).1 19 _ = _; rw [aH_19, ct, if_pos rfl]
  have y : bex B (addTh C (bma B)) := x.trans bex_H
  have d7 : bop (addTh C (bma B)) (bma B) = 47 := (ek 7 _ (by decide) (by decide) (by decide) (by decide)).trans c7
  have d8 : bso (addTh C (bma B)) (bma B) = so := (ek 8 _ (by decide) (by decide) (by decide) (by decide)).trans c8
  have d11 : blo (addTh C (bma B)) (bma B) = bth B := (ek 11 _ (by decide) (by decide) (by decide) (by decide)).trans c11
  have d14 : blw (addTh C (bma B)) (bma B) = bma B := (ek 14 _ (by decide) (by decide) (by decide) (by decide)).trans c14
  refine ⟨?_, ?_, ?_, by rw [et, en]; omega, ?_, by rw [em, ef, cf]; omega⟩
  · refine wf_up wf y (by rw [em]; omega) (by rw [em, ef, cf]; exact wf.1.2.1) (by rw [et]; omega) (by rw [ea]; exact wf.1.2.2.2.2.1) (by rw [en]; omega) (by rw [ew]; exact wf.1.2.2.2.2.2.2) (by rw [em, ef, cf]; exact Nat.le_refl _) (by rw [es]; omega) (fun t t1 t2 => ?_) (fun i i1 i2 => ?_) (fun i i1 i2 => absurd i2 (by rw [ea]; omega))
    · have e : t = bma B := by rw [em] at t2; omega
      subst e
      rw [ef, ef, ef, em, cf, cf0, d8, es]
      refine ⟨Nat.le_refl _, Nat.le_refl _, fun i i1 i2 => absurd i1 (by omega), hs, ?_, fun _ => by omega⟩
      unfold typ
      dsimp only
      rw [d7, d11, ef, ef, cf, cf0, et, e19]
      exact ⟨by omega, by omega, rfl⟩
    · have e : i = bth B := by rw [et] at i2; omega
      subst e
      rw [e19, em, d7, d11, d8]
      refine ⟨by omega, rfl, rfl, ?_⟩
      have : bbe (addTh C (bma B)) (bth B + 1) = bsz B + szs so := by rw [← es, ← et]
      rw [this]
      have : bbe (addTh C (bma B)) (bth B) = bsz B := by
        show (addTh C (bma B)).1 21 _ = _
        rw [aH_21, ct, if_neg (by omega)]
        exact ck 21 _ (by decide)
      rw [this]
  · refine lw_up wf l y (fun t t1 t2 => ?_)
    have e : t = bma B := by rw [em] at t2; omega
    subst e
    rw [ef, ef, cf, cf0, d14]
    exact ⟨Nat.le_refl _, fun i i1 i2 => absurd i1 (by omega)⟩
  · obtain ⟨n1, n2, n3, n4, n5⟩ := n
    have e17 : ∀ j, (addTh C (bma B)).1 17 j = B.1 17 j := fun j => (ek 17 _ (by decide) (by decide) (by decide) (by decide)).trans (ck 17 _ (by decide))
    rw [en, et, em]
    refine ⟨fun i hi => ?_, (e17 0).trans n2, fun i hi => by rw [e17, e17]; exact n3 i hi, by rw [e17]; exact n4, fun i hi => ?_⟩
    · rw [ek 18 _ (by decide) (by decide) (by decide) (by decide), ck 18 _ (by decide)]
      have := n1 i hi
      omega
    · rw [aH_20, ct, cn]
      split
      · exact Nat.le_refl _
      · rw [ck 20 _ (by decide)]
        exact Nat.le_of_lt (n5 i (by omega))
  · intro i hi
    rw [en, ek 17 _ (by decide) (by decide) (by decide) (by decide), ck 17 _ (by decide)] at hi
    rw [ek 16 _ (by decide) (by decide) (by decide) (by decide), ck 16 _ (by decide)]
    exact h2 i hi
end GROW
