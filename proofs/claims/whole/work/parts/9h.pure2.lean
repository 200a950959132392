/-! WHAT THE PARSER LEAVES: terms -/
theorem szs_v {r : Nat} (h1 : 1 ≤ r) (h2 : r ≤ 64) : szs r = r := by
  unfold szs
  rw [if_neg (by omega), Nat.mod_eq_of_lt (by omega), Nat.div_eq_of_lt (by omega), Nat.pow_zero, Nat.mul_one]
theorem cst_step {s k : Nat} {v : BitVec 64} {d : Nat} (hv : v.toNat < 2 ^ (s * k)) (hd : d < 2 ^ s) (hk : s * (k + 1) ≤ 64) : ((v <<< s) ||| BitVec.ofNat 64 d).toNat < 2 ^ (s * (k + 1)) := by
  have e : 2 ^ (s * (k + 1)) = 2 ^ (s * k) * 2 ^ s := by rw [Nat.mul_add, Nat.mul_one, Nat.pow_add]
  have le : 2 ^ (s * (k + 1)) ≤ 2 ^ 64 := Nat.pow_le_pow_right (by decide) hk
  have p1 : 1 ≤ 2 ^ (s * k) := Nat.one_le_two_pow
  have m : v.toNat * 2 ^ s + 2 ^ s ≤ 2 ^ (s * k) * 2 ^ s := by
    have := Nat.mul_le_mul_right (2 ^ s) (show v.toNat + 1 ≤ 2 ^ (s * k) from hv)
    rw [Nat.add_mul, Nat.one_mul] at this
    exact this
  rw [BitVec.toNat_or, BitVec.toNat_shiftLeft, BitVec.toNat_ofNat, Nat.mod_eq_of_lt (a := d) (by omega), Nat.shiftLeft_eq, Nat.mod_eq_of_lt (by omega), ← Nat.shiftLeft_eq, ← Nat.shiftLeft_add_eq_or_of_lt hd, Nat.shiftLeft_eq]
  omega
theorem cst_lt {s : Nat} : ∀ (ds : List Nat) (k : Nat) (v : BitVec 64), (∀ d ∈ ds, (dgv d).getD 0 < 2 ^ s) → v.toNat < 2 ^ (s * k) → s * (k + ds.length) ≤ 64 → (ds.foldl (fun (v : BitVec 64) (d : Nat) => (v <<< s) ||| BitVec.ofNat 64 ((dgv d).getD 0)) v).toNat < 2 ^ (s * (k + ds.length)) := by
  intro ds
  induction ds with
  | nil => intro k v _ h _; exact h
  | cons d ds ih =>
    intro k v h1 h2 h3
    have e : k + (d :: ds).length = k + 1 + ds.length := by simp only [List.length_cons]; omega
    rw [e] at h3 ⊢
    have le : s * (k + 1) ≤ s * (k + 1 + ds.length) := Nat.mul_le_mul_left s (by omega)
    exact ih (k + 1) _ (fun d' hd' => h1 d' (List.mem_cons_of_mem _ hd')) (cst_step h2 (h1 d (List.mem_cons_self ..)) (by omega)) h3
theorem dlt_get {b k : Nat} (h : dlt (dgv b) k = true) : (dgv b).getD 0 < k := by
  cases e : dgv b with
  | none => rw [e] at h; cases h
  | some v => rw [e] at h; exact of_decide_eq_true h
theorem wtx_drop {c : Nat → Nat} {p q d : Nat} (h : d ∈ (wtx c p q).drop 2) : ∃ i, p + 2 ≤ i ∧ i < q ∧ d = c i := by
  obtain ⟨k, hk, e⟩ := List.mem_iff_getElem.mp h
  rw [List.length_drop, wtx_len] at hk
  rw [List.getElem_drop] at e
  refine ⟨p + (2 + k), by omega, by omega, ?_⟩
  rw [← e]
  have := wtx_at (c := c) (p := p) (q := q) (i := 2 + k) (by omega)
  rw [List.getD_eq_getElem?_getD, List.getElem?_eq_getElem (by rw [wtx_len]; omega)] at this
  exact this
theorem cst_tok {c : Nat → Nat} {p q s b : Nat} (ha : alD c b (p + 2) q = true) (hb : b = 2 ^ s) (hl : s * (q - p - 2) ≤ 64) : (cst s (wtx c p q)).toNat < 2 ^ (s * (q - p - 2)) := by
  have ha := of_decide_eq_true ha
  have := cst_lt (s := s) ((wtx c p q).drop 2) 0 0#64 (fun d hd => by
    obtain ⟨i, i1, i2, e⟩ := wtx_drop hd
    rw [e, ← hb]
    exact dlt_get (ha i i2 i1)) (by rw [Nat.mul_zero]; decide) (by rw [List.length_drop, wtx_len, Nat.zero_add]; exact hl)
  rw [List.length_drop, wtx_len, Nat.zero_add] at this
  exact this
section PURE2
variable {B : Bk} {op so lo hi beg : Nat} {as : List Nat}
theorem sor_cs {n : Nat} {s : Nat → Nat} (h : sor op n s hi lo = some so) :
    (op = 10 → (1 ≤ s 0 ∧ s 0 ≤ 127) ∧ hi < s 0 ∧ so = hi - lo + 1) ∧ (op = 11 ∨ op = 12 → (1 ≤ s 0 ∧ s 0 ≤ 127) ∧ hi + s 0 ≤ 64 ∧ so = s 0 + hi) ∧
    (op = 13 ∨ op = 14 ∨ op = 15 ∨ op = 16 ∨ op = 17 → (∀ i, i < n → s i = 0) ∧ so = 0) ∧ (op = 18 → s 0 = 0 ∧ s 2 = s 1 ∧ so = s 1) ∧ (op = 19 ∨ op = 20 → (∀ i, i < n → s i = s 0) ∧ so = 0) ∧
    (op = 44 → (∀ i, i < n → 1 ≤ s i ∧ s i ≤ 127) ∧ ((List.range n).map s).sum ≤ 64 ∧ so = ((List.range n).map s).sum) ∧ (op = 45 → 128 ≤ s 0 ∧ s 1 = s 0 / 128 ∧ so = s 0 % 128) ∧ (op = 46 → 128 ≤ s 0 ∧ s 1 = s 0 / 128 ∧ s 2 = s 0 % 128 ∧ so = s 0) ∧
    (20 < op → op < 44 → (1 ≤ s 0 ∧ s 0 ≤ 127) ∧ (∀ i, i < n → s i = s 0) ∧ so = if 36 ≤ op then 0 else s 0) := by
  unfold sor at h
  by_cases c1 : op = 10
  · rw [if_pos c1] at h
    split at h
    · rename_i z
      cases h
      refine ⟨fun _ => ⟨z.1, z.2, rfl⟩, ?_, ?_, ?_, ?_, ?_, ?_, ?_, ?_⟩ <;> intros <;> omega
    · cases h
  · rw [if_neg c1] at h
    by_cases c2 : op = 11 ∨ op = 12
    · rw [if_pos c2] at h
      split at h
      · rename_i z
        cases h
        refine ⟨?_, fun _ => ⟨z.1, z.2, rfl⟩, ?_, ?_, ?_, ?_, ?_, ?_, ?_⟩ <;> intros <;> omega
      · cases h
    · rw [if_neg c2] at h
      by_cases c3 : op = 13 ∨ op = 14 ∨ op = 15 ∨ op = 16 ∨ op = 17
      · rw [if_pos c3] at h
        split at h
        · rename_i z
          cases h
          refine ⟨?_, ?_, fun _ => ⟨fun i q => (z.2 i q).trans z.1, rfl⟩, ?_, ?_, ?_, ?_, ?_, ?_⟩ <;> intros <;> omega
        · cases h
      · rw [if_neg c3] at h
        by_cases c4 : op = 18
        · rw [if_pos c4] at h
          split at h
          · rename_i z
            cases h
            refine ⟨?_, ?_, ?_, fun _ => ⟨z.1, z.2, rfl⟩, ?_, ?_, ?_, ?_, ?_⟩ <;> intros <;> omega
          · cases h
        · rw [if_neg c4] at h
          by_cases c5 : op = 19 ∨ op = 20
          · rw [if_pos c5] at h
            split at h
            · rename_i z
              cases h
              refine ⟨?_, ?_, ?_, ?_, fun _ => ⟨z, rfl⟩, ?_, ?_, ?_, ?_⟩ <;> intros <;> omega
            · cases h
          · rw [if_neg c5] at h
            by_cases c6 : op = 44
            · rw [if_pos c6] at h
              split at h
              · rename_i z
                cases h
                refine ⟨?_, ?_, ?_, ?_, ?_, fun _ => ⟨z.1, z.2, rfl⟩, ?_, ?_, ?_⟩ <;> intros <;> omega
              · cases h
            · rw [if_neg c6] at h
              by_cases c7 : op = 45
              · rw [if_pos c7] at h
                split at h
                · rename_i z
                  cases h
                  refine ⟨?_, ?_, ?_, ?_, ?_, ?_, fun _ => ⟨z.1, z.2, rfl⟩, ?_, ?_⟩ <;> intros <;> omega
                · cases h
              · rw [if_neg c7] at h
                by_cases c8 : op = 46
                · rw [if_pos c8] at h
                  split at h
                  · rename_i z
                    cases h
                    refine ⟨?_, ?_, ?_, ?_, ?_, ?_, ?_, fun _ => ⟨z.1, z.2.1, z.2.2, rfl⟩, ?_⟩ <;> intros <;> omega
                  · cases h
                · rw [if_neg c8] at h
                  split at h
                  · rename_i z
                    cases h
                    refine ⟨?_, ?_, ?_, ?_, ?_, ?_, ?_, ?_, fun _ _ => ⟨z.1, z.2, rfl⟩⟩ <;> intros <;> omega
                  · cases h
theorem fitM_cs {n : Nat} (h : fitM op n = true) : (op = 10 ∨ op = 11 ∨ op = 12 ∨ op = 13 ∨ op = 21 ∨ op = 22 → n = 1) ∧ (op = 14 ∨ op = 15 ∨ op = 16 ∨ op = 17 ∨ op = 19 ∨ op = 20 ∨ op = 23 ∨ op = 24 ∨ op = 25 ∨ op = 26 ∨ op = 27 ∨ op = 44 → 2 ≤ n) ∧ (op = 18 ∨ op = 46 → n = 3) ∧ (28 ≤ op → op ≤ 45 → op ≠ 44 → n = 2) ∧ 1 ≤ n := by
  unfold fitM at h
  by_cases c1 : op = 10 ∨ op = 11 ∨ op = 12 ∨ op = 13 ∨ op = 21 ∨ op = 22
  · rw [if_pos c1] at h
    have := of_decide_eq_true h
    omega
  · rw [if_neg c1] at h
    by_cases c2 : op = 14 ∨ op = 15 ∨ op = 16 ∨ op = 17 ∨ op = 19 ∨ op = 20 ∨ op = 23 ∨ op = 24 ∨ op = 25 ∨ op = 26 ∨ op = 27 ∨ op = 44
    · rw [if_pos c2] at h
      have := of_decide_eq_true h
      omega
    · rw [if_neg c2] at h
      by_cases c3 : op = 18 ∨ op = 46
      · rw [if_pos c3] at h
        have := of_decide_eq_true h
        omega
      · rw [if_neg c3] at h
        have := of_decide_eq_true h
        omega
theorem sum_two {n : Nat} {s : Nat → Nat} (h1 : ∀ i, i < n → 1 ≤ s i) (hn : 2 ≤ n) (hs : ((List.range n).map s).sum ≤ 64) : ∀ i, i < n → s i ≤ 63 := by
  have key : ∀ n i, i < n → (∀ i, i < n → 1 ≤ s i) → s i + (n - 1) ≤ ((List.range n).map s).sum := by
    intro n
    induction n with
    | zero => intro i hi; omega
    | succ n ih =>
      intro i hi h
      rw [List.range_succ, List.map_append, List.sum_append]
      simp only [List.map_cons, List.map_nil, List.sum_cons, List.sum_nil]
      by_cases e : i = n
      · subst e
        by_cases z : i = 0
        · subst z; simp
        · have a := ih 0 (by omega) (fun j hj => h j (by omega))
          have b := h 0 (by omega)
          omega
      · have a := ih i (by omega) (fun j hj => h j (by omega))
        have b := h n (by omega)
        omega
  intro i hi
  have := key n i hi h1
  omega
theorem typ_ap (g : gB B) (ha : ∀ a ∈ as, a < bma B) (hf : fitM op as.length = true) (hs : sor op as.length (fun i => bso B (as.getD i 0)) hi lo = some so) (h1 : 10 ≤ op) (h2 : op ≤ 46) (hl : lo ≤ hi) :
    typ (addT B op so (if op = 10 then lo else 0) 0#64 as) (bma B) ∧ okS so ∧ (128 ≤ so → szs so ≤ bsz B) := by
  obtain ⟨w, -⟩ := g
  have ok : ∀ i, i < as.length → okS (bso B (as.getD i 0)) := fun i hi => wf_so w (ha _ (getD_mem hi))
  have zs : ∀ i, i < as.length → 128 ≤ bso B (as.getD i 0) → szs (bso B (as.getD i 0)) ≤ bsz B := fun i hi => (w.2.2.2.1 _ (ha _ (getD_mem hi))).2.2
  have e7 : bop (addT B op so (if op = 10 then lo else 0) 0#64 as) (bma B) = op := (aT_7 _).trans (if_pos rfl)
  have e8 : bso (addT B op so (if op = 10 then lo else 0) 0#64 as) (bma B) = so := (aT_8 _).trans (if_pos rfl)
  have e11 : blo (addT B op so (if op = 10 then lo else 0) 0#64 as) (bma B) = if op = 10 then lo else 0 := (aT_11 _).trans (if_pos rfl)
  have ea : ∀ i, i < as.length → bso (addT B op so (if op = 10 then lo else 0) 0#64 as) (bar (addT B op so (if op = 10 then lo else 0) 0#64 as) (bfi B (bma B) + i)) = bso B (as.getD i 0) := fun i hi => by
    rw [aT_a hi]
    exact bex_T.so (ha _ (getD_mem hi))
  unfold typ
  dsimp only
  rw [e7, e8, e11, aT_f, aT_f0, Nat.add_sub_cancel_left]
  generalize hS : (fun i => bso (addT B op so (if op = 10 then lo else 0) 0#64 as) (bar (addT B op so (if op = 10 then lo else 0) 0#64 as) (bfi B (bma B) + i))) = S
  have f1 : ∀ i, bso (addT B op so (if op = 10 then lo else 0) 0#64 as) (bar (addT B op so (if op = 10 then lo else 0) 0#64 as) (bfi B (bma B) + i)) = S i := fun i => by rw [← hS]
  simp only [f1]
  simp only [f1] at ea
  obtain ⟨c1, c2, c3, c4, c5, c6, c7, c8, c9⟩ := sor_cs hs
  obtain ⟨d1, d2, d3, d4, d5⟩ := fitM_cs hf
  generalize hn : as.length = n at *
  obtain ⟨s, hq⟩ : ∃ s : Nat → Nat, s = fun i => bso B (as.getD i 0) := ⟨_, rfl⟩
  have f0 : ∀ i, bso B (as.getD i 0) = s i := fun i => by rw [hq]
  simp only [f0] at ok zs ea c1 c2 c3 c4 c5 c6 c7 c8 c9
  have ok0 := ok 0 d5
  have ea0 := ea 0 d5
  unfold okS at ok ok0 ⊢
  have sm : ((List.range n).map S) = ((List.range n).map s) := List.map_congr_left (fun i hi => ea i (List.mem_range.mp hi))
  have cs : op = 10 ∨ (op = 11 ∨ op = 12) ∨ op = 13 ∨ (op = 14 ∨ op = 15 ∨ op = 16 ∨ op = 17) ∨ op = 18 ∨ (op = 19 ∨ op = 20) ∨ (op = 21 ∨ op = 22) ∨ (op = 23 ∨ op = 24 ∨ op = 25 ∨ op = 26 ∨ op = 27) ∨ (28 ≤ op ∧ op ≤ 43) ∨ op = 44 ∨ op = 45 ∨ op = 46 := by omega
  rcases cs with q | q | q | q | q | q | q | q | q | q | q | q
  · have e := c1 q
    subst q
    refine ⟨⟨d1 (by omega), by omega, by omega, ?_, by omega⟩, by omega, fun z => by omega⟩
    show (if (10 : Nat) = 10 then lo else 0) + so ≤ S 0
    rw [if_pos rfl]
    omega
  · have e := c2 q
    refine ⟨?_, by omega, fun z => by omega⟩
    rcases q with q | q <;> subst q <;> exact ⟨d1 (by omega), by omega, by omega, by omega⟩
  · have e := c3 (by omega)
    subst q
    have e0 := e.1 0 d5
    exact ⟨⟨d1 (by omega), by omega, e.2⟩, by omega, fun z => by omega⟩
  · have e := c3 (by omega)
    have e1 : ∀ i, i < n → S i = 0 := fun i hi => (ea i hi).trans (e.1 i hi)
    refine ⟨?_, by omega, fun z => by omega⟩
    have dd := d2 (by omega)
    rcases q with q | q | q | q <;> subst q <;> exact ⟨dd, e1, e.2⟩
  · have e := c4 q
    have dd := d3 (by omega)
    have ea1 := ea 1 (by omega)
    have ea2 := ea 2 (by omega)
    have ok1 := ok 1 (by omega)
    have zs1 := zs 1 (by omega)
    subst q
    rw [e.2.2]
    exact ⟨⟨dd, by omega, by omega, by omega⟩, ok1, zs1⟩
  · have e := c5 q
    have e1 : ∀ i, i < n → S i = S 0 := fun i hi => by rw [ea i hi, ea0]; exact e.1 i hi
    have dd := d2 (by omega)
    refine ⟨?_, by omega, fun z => by omega⟩
    rcases q with q | q <;> subst q <;> exact ⟨dd, e1, e.2⟩
  · have e := c9 (by omega) (by omega)
    rw [if_neg (by omega)] at e
    have dd := d1 (by omega)
    refine ⟨?_, by omega, fun z => by omega⟩
    rcases q with q | q <;> subst q <;> exact ⟨dd, by omega, by omega, by omega⟩
  · have e := c9 (by omega) (by omega)
    rw [if_neg (by omega)] at e
    have dd := d2 (by omega)
    have e1 : ∀ i, i < n → S i = so := fun i hi => by rw [ea i hi, e.2.1 i hi, e.2.2]
    refine ⟨?_, by omega, fun z => by omega⟩
    rcases q with q | q | q | q | q <;> subst q <;> exact ⟨dd, e1, by omega, by omega⟩
  · have e := c9 (by omega) (by omega)
    have dd := d4 (by omega) (by omega) (by omega)
    have ea1 := ea 1 (by omega)
    have e1 := e.2.1 1 (by omega)
    have e3 := e.2.2
    have ty : n = 2 ∧ S 0 = S 1 ∧ 1 ≤ S 0 ∧ S 0 ≤ 64 ∧ (28 ≤ op ∧ op ≤ 35 ∧ so = S 0 ∨ 36 ≤ op ∧ op ≤ 43 ∧ so = 0) := by
      by_cases z : 36 ≤ op
      · rw [if_pos z] at e3; omega
      · rw [if_neg z] at e3; omega
    refine ⟨?_, by omega, fun z => by omega⟩
    split
    all_goals first
      | (exfalso; omega)
      | exact ty
  · have e := c6 q
    have dd := d2 (by omega)
    have le := sum_two (fun i hi => (e.1 i hi).1) dd e.2.1
    have e1 : ∀ i, i < n → 1 ≤ S i ∧ S i ≤ 63 := fun i hi => by rw [ea i hi]; exact ⟨(e.1 i hi).1, le i hi⟩
    have pos1 : 1 ≤ so := by
      have := e.2.2
      obtain ⟨m, hm⟩ : ∃ m, n = m + 1 := ⟨n - 1, by omega⟩
      rw [hm, List.range_succ, List.map_append, List.sum_append] at this
      simp only [List.map_cons, List.map_nil, List.sum_cons, List.sum_nil] at this
      have := (e.1 m (by omega)).1
      omega
    subst q
    refine ⟨⟨dd, e1, ?_, by omega⟩, by omega, fun z => by omega⟩
    show so = ((List.range n).map S).sum
    rw [sm]
    exact e.2.2
  · have e := c7 q
    have dd := d4 (by omega) (by omega) (by omega)
    have ea1 := ea 1 (by omega)
    subst q
    exact ⟨⟨dd, by omega, by omega, by omega⟩, by omega, fun z => by omega⟩
  · have e := c8 q
    have dd := d3 (by omega)
    have ea1 := ea 1 (by omega)
    have ea2 := ea 2 (by omega)
    have zs0 := zs 0 (by omega)
    subst q
    rw [e.2.2.2]
    exact ⟨⟨dd, by omega, by omega, by omega, by omega⟩, ok0, zs0⟩
end PURE2
