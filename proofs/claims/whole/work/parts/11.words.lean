def wp_Words_mask (Q : xO → xS → Prop) (σ : xS) (a0 : Int32) : Prop :=
  ((a0 < 64 → Q (.inl (some (.long ((jlshl 1 a0) - 1)))) σ) ∧ (¬ a0 < 64 → Q (.inl (some (.long (-1)))) σ))
set_option maxRecDepth 20000 in
theorem s_Words_mask {γ : xG1} {d : Nat} {Q : xO → xS → Prop} {σ : xS} {a0 : Int32} (h : wp_Words_mask Q σ a0) : xM (SHP, γ) Y_Words_mask (d + 0) [.int a0] σ Q := by
  refine xM.of (by decide) (Nat.le_of_ble_eq_true rfl) ?_
  refine xJ.iload_n (o_Words_mask 0 rfl) rfl ?_
  refine xJ.bipush (v := 64) (o_Words_mask 1 rfl) (by decide) ?_
  refine xJ.icmp_lt (tgt := 12) (o_Words_mask 2 rfl) (by decide) (fun z => ?_) (fun z => ?_)
  · replace h := h.1 z
    refine xJ.lconst (v := 1) (o_Words_mask 5 rfl) (by decide) ?_
    refine xJ.iload_n (o_Words_mask 6 rfl) rfl ?_
    refine xJ.lshl (o_Words_mask 7 rfl) rfl ?_
    refine xJ.lconst (v := 1) (o_Words_mask 8 rfl) (by decide) ?_
    refine xJ.lsub (o_Words_mask 9 rfl) ?_
    exact xJ.lreturn (o_Words_mask 10 rfl) rfl h
  · replace h := h.2 z
    refine xJ.ldc2 (v := (-1)) (o_Words_mask 3 rfl) k_Words_9 ?_
    refine xJ.goto (tgt := 17) (o_Words_mask 4 rfl) (by decide) ?_
    exact xJ.lreturn (o_Words_mask 10 rfl) rfl h
def wp_Words_signed (Q : xO → xS → Prop) (σ : xS) (a0 : Int64) (a2 : Int32) : Prop :=
  (∀ x1 : Int32, x1 = (64 - a2) → Q (.inl (some (.long (jlshr (jlshl a0 x1) x1)))) σ)
set_option maxRecDepth 20000 in
theorem s_Words_signed {γ : xG1} {d : Nat} {Q : xO → xS → Prop} {σ : xS} {a0 : Int64} {a2 : Int32} (h : wp_Words_signed Q σ a0 a2) : xM (SHP, γ) Y_Words_signed (d + 0) [.long a0, .int a2] σ Q := by
  refine xM.of (by decide) (Nat.le_of_ble_eq_true rfl) ?_
  refine xJ.bipush (v := 64) (o_Words_signed 0 rfl) (by decide) ?_
  refine xJ.iload_n (o_Words_signed 1 rfl) rfl ?_
  refine xJ.isub (o_Words_signed 2 rfl) ?_
  refine xJ.istore_n (o_Words_signed 3 rfl) (by decide) ?_
  replace h := h _ rfl
  refine xJ.lload_n (o_Words_signed 4 rfl) rfl ?_
  refine xJ.iload_n (o_Words_signed 5 rfl) rfl ?_
  refine xJ.lshl (o_Words_signed 6 rfl) rfl ?_
  refine xJ.iload_n (o_Words_signed 7 rfl) rfl ?_
  refine xJ.lshr (o_Words_signed 8 rfl) rfl ?_
  exact xJ.lreturn (o_Words_signed 9 rfl) rfl h
def wp_Words_less (Q : xO → xS → Prop) (σ : xS) (a0 : Int64) (a2 : Int64) : Prop :=
  ((0 ≤ (lg_cmp (a0 + (-9223372036854775808)) (a2 + (-9223372036854775808))) → Q (.inl (some (.int 0))) σ) ∧ (¬ 0 ≤ (lg_cmp (a0 + (-9223372036854775808)) (a2 + (-9223372036854775808))) → Q (.inl (some (.int 1))) σ))
set_option maxRecDepth 20000 in
theorem s_Words_less {γ : xG1} {d : Nat} {Q : xO → xS → Prop} {σ : xS} {a0 : Int64} {a2 : Int64} (h : wp_Words_less Q σ a0 a2) : xM (SHP, γ) Y_Words_less (d + 0) [.long a0, .long a2] σ Q := by
  refine xM.of (by decide) (Nat.le_of_ble_eq_true rfl) ?_
  refine xJ.lload_n (o_Words_less 0 rfl) rfl ?_
  refine xJ.ldc2 (v := (-9223372036854775808)) (o_Words_less 1 rfl) k_Words_13 ?_
  refine xJ.ladd (o_Words_less 2 rfl) ?_
  refine xJ.lload_n (o_Words_less 3 rfl) rfl ?_
  refine xJ.ldc2 (v := (-9223372036854775808)) (o_Words_less 4 rfl) k_Words_13 ?_
  refine xJ.ladd (o_Words_less 5 rfl) ?_
  refine xJ.lcmp (o_Words_less 6 rfl) ?_
  refine xJ.if_ge (tgt := 18) (o_Words_less 7 rfl) (by decide) (fun z => ?_) (fun z => ?_)
  · replace h := h.1 z
    refine xJ.iconst (v := 0) (o_Words_less 10 rfl) (by decide) ?_
    exact xJ.zreturn (o_Words_less 11 rfl) rfl (Or.inl rfl) h
  · replace h := h.2 z
    refine xJ.iconst (v := 1) (o_Words_less 8 rfl) (by decide) ?_
    refine xJ.goto (tgt := 19) (o_Words_less 9 rfl) (by decide) ?_
    exact xJ.zreturn (o_Words_less 11 rfl) rfl (Or.inr rfl) h
def wp_Words_upToHighest (Q : xO → xS → Prop) (σ : xS) (a0 : Int64) : Prop :=
  (∀ x1 : Int64, x1 = (a0 ||| (jlushr a0 1)) → (∀ x2 : Int64, x2 = (x1 ||| (jlushr x1 2)) → (∀ x3 : Int64, x3 = (x2 ||| (jlushr x2 4)) → (∀ x4 : Int64, x4 = (x3 ||| (jlushr x3 8)) → (∀ x5 : Int64, x5 = (x4 ||| (jlushr x4 16)) → Q (.inl (some (.long (x5 ||| (jlushr x5 32))))) σ)))))
set_option maxRecDepth 20000 in
theorem s_Words_upToHighest {γ : xG1} {d : Nat} {Q : xO → xS → Prop} {σ : xS} {a0 : Int64} (h : wp_Words_upToHighest Q σ a0) : xM (SHP, γ) Y_Words_upToHighest (d + 0) [.long a0] σ Q := by
  refine xM.of (by decide) (Nat.le_of_ble_eq_true rfl) ?_
  refine xJ.lload_n (o_Words_upToHighest 0 rfl) rfl ?_
  refine xJ.lload_n (o_Words_upToHighest 1 rfl) rfl ?_
  refine xJ.iconst (v := 1) (o_Words_upToHighest 2 rfl) (by decide) ?_
  refine xJ.lushr (o_Words_upToHighest 3 rfl) rfl ?_
  refine xJ.lor (o_Words_upToHighest 4 rfl) ?_
  refine xJ.lstore_n (o_Words_upToHighest 5 rfl) (by decide) ?_
  replace h := h _ rfl
  refine xJ.lload_n (o_Words_upToHighest 6 rfl) rfl ?_
  refine xJ.lload_n (o_Words_upToHighest 7 rfl) rfl ?_
  refine xJ.iconst (v := 2) (o_Words_upToHighest 8 rfl) (by decide) ?_
  refine xJ.lushr (o_Words_upToHighest 9 rfl) rfl ?_
  refine xJ.lor (o_Words_upToHighest 10 rfl) ?_
  refine xJ.lstore_n (o_Words_upToHighest 11 rfl) (by decide) ?_
  replace h := h _ rfl
  refine xJ.lload_n (o_Words_upToHighest 12 rfl) rfl ?_
  refine xJ.lload_n (o_Words_upToHighest 13 rfl) rfl ?_
  refine xJ.iconst (v := 4) (o_Words_upToHighest 14 rfl) (by decide) ?_
  refine xJ.lushr (o_Words_upToHighest 15 rfl) rfl ?_
  refine xJ.lor (o_Words_upToHighest 16 rfl) ?_
  refine xJ.lstore_n (o_Words_upToHighest 17 rfl) (by decide) ?_
  replace h := h _ rfl
  refine xJ.lload_n (o_Words_upToHighest 18 rfl) rfl ?_
  refine xJ.lload_n (o_Words_upToHighest 19 rfl) rfl ?_
  refine xJ.bipush (v := 8) (o_Words_upToHighest 20 rfl) (by decide) ?_
  refine xJ.lushr (o_Words_upToHighest 21 rfl) rfl ?_
  refine xJ.lor (o_Words_upToHighest 22 rfl) ?_
  refine xJ.lstore_n (o_Words_upToHighest 23 rfl) (by decide) ?_
  replace h := h _ rfl
  refine xJ.lload_n (o_Words_upToHighest 24 rfl) rfl ?_
  refine xJ.lload_n (o_Words_upToHighest 25 rfl) rfl ?_
  refine xJ.bipush (v := 16) (o_Words_upToHighest 26 rfl) (by decide) ?_
  refine xJ.lushr (o_Words_upToHighest 27 rfl) rfl ?_
  refine xJ.lor (o_Words_upToHighest 28 rfl) ?_
  refine xJ.lstore_n (o_Words_upToHighest 29 rfl) (by decide) ?_
  replace h := h _ rfl
  refine xJ.lload_n (o_Words_upToHighest 30 rfl) rfl ?_
  refine xJ.lload_n (o_Words_upToHighest 31 rfl) rfl ?_
  refine xJ.bipush (v := 32) (o_Words_upToHighest 32 rfl) (by decide) ?_
  refine xJ.lushr (o_Words_upToHighest 33 rfl) rfl ?_
  refine xJ.lor (o_Words_upToHighest 34 rfl) ?_
  exact xJ.lreturn (o_Words_upToHighest 35 rfl) rfl h
def wp_Words_lowestRun (Q : xO → xS → Prop) (σ : xS) (a0 : Int64) : Prop :=
  Q (.inl (some (.long (((a0 ^^^ (-1)) &&& (a0 + 1)) - 1)))) σ
set_option maxRecDepth 20000 in
theorem s_Words_lowestRun {γ : xG1} {d : Nat} {Q : xO → xS → Prop} {σ : xS} {a0 : Int64} (h : wp_Words_lowestRun Q σ a0) : xM (SHP, γ) Y_Words_lowestRun (d + 0) [.long a0] σ Q := by
  refine xM.of (by decide) (Nat.le_of_ble_eq_true rfl) ?_
  refine xJ.lload_n (o_Words_lowestRun 0 rfl) rfl ?_
  refine xJ.ldc2 (v := (-1)) (o_Words_lowestRun 1 rfl) k_Words_9 ?_
  refine xJ.lxor (o_Words_lowestRun 2 rfl) ?_
  refine xJ.lload_n (o_Words_lowestRun 3 rfl) rfl ?_
  refine xJ.lconst (v := 1) (o_Words_lowestRun 4 rfl) (by decide) ?_
  refine xJ.ladd (o_Words_lowestRun 5 rfl) ?_
  refine xJ.land (o_Words_lowestRun 6 rfl) ?_
  refine xJ.lconst (v := 1) (o_Words_lowestRun 7 rfl) (by decide) ?_
  refine xJ.lsub (o_Words_lowestRun 8 rfl) ?_
  exact xJ.lreturn (o_Words_lowestRun 9 rfl) rfl h
def wp_Integer_bitCount (Q : xO → xS → Prop) (σ : xS) (a0 : Int32) : Prop :=
  (∀ x1 : Int32, x1 = (a0 - ((jiushr a0 1) &&& 1431655765)) → (∀ x2 : Int32, x2 = ((x1 &&& 858993459) + ((jiushr x1 2) &&& 858993459)) → (∀ x3 : Int32, x3 = ((x2 + (jiushr x2 4)) &&& 252645135) → (∀ x4 : Int32, x4 = (x3 + (jiushr x3 8)) → (∀ x5 : Int32, x5 = (x4 + (jiushr x4 16)) → Q (.inl (some (.int (x5 &&& 63)))) σ)))))
set_option maxRecDepth 20000 in
theorem s_Integer_bitCount {γ : xG1} {d : Nat} {Q : xO → xS → Prop} {σ : xS} {a0 : Int32} (h : wp_Integer_bitCount Q σ a0) : xM (SHP, γ) Y_Integer_bitCount (d + 0) [.int a0] σ Q := by
  refine xM.ofF (by decide +kernel) (Nat.le_of_ble_eq_true rfl) ?_
  refine xJ.iload_n (o_Integer_bitCount 0 rfl) rfl ?_
  refine xJ.iload_n (o_Integer_bitCount 1 rfl) rfl ?_
  refine xJ.iconst (v := 1) (o_Integer_bitCount 2 rfl) (by decide) ?_
  refine xJ.iushr (o_Integer_bitCount 3 rfl) rfl ?_
  refine xJ.ldcw (v := 1431655765) (o_Integer_bitCount 4 rfl) k_Integer_265 ?_
  refine xJ.iand (o_Integer_bitCount 5 rfl) ?_
  refine xJ.isub (o_Integer_bitCount 6 rfl) ?_
  refine xJ.istore_n (o_Integer_bitCount 7 rfl) (by decide) ?_
  replace h := h _ rfl
  refine xJ.iload_n (o_Integer_bitCount 8 rfl) rfl ?_
  refine xJ.ldcw (v := 858993459) (o_Integer_bitCount 9 rfl) k_Integer_266 ?_
  refine xJ.iand (o_Integer_bitCount 10 rfl) ?_
  refine xJ.iload_n (o_Integer_bitCount 11 rfl) rfl ?_
  refine xJ.iconst (v := 2) (o_Integer_bitCount 12 rfl) (by decide) ?_
  refine xJ.iushr (o_Integer_bitCount 13 rfl) rfl ?_
  refine xJ.ldcw (v := 858993459) (o_Integer_bitCount 14 rfl) k_Integer_266 ?_
  refine xJ.iand (o_Integer_bitCount 15 rfl) ?_
  refine xJ.iadd (o_Integer_bitCount 16 rfl) ?_
  refine xJ.istore_n (o_Integer_bitCount 17 rfl) (by decide) ?_
  replace h := h _ rfl
  refine xJ.iload_n (o_Integer_bitCount 18 rfl) rfl ?_
  refine xJ.iload_n (o_Integer_bitCount 19 rfl) rfl ?_
  refine xJ.iconst (v := 4) (o_Integer_bitCount 20 rfl) (by decide) ?_
  refine xJ.iushr (o_Integer_bitCount 21 rfl) rfl ?_
  refine xJ.iadd (o_Integer_bitCount 22 rfl) ?_
  refine xJ.ldcw (v := 252645135) (o_Integer_bitCount 23 rfl) k_Integer_267 ?_
  refine xJ.iand (o_Integer_bitCount 24 rfl) ?_
  refine xJ.istore_n (o_Integer_bitCount 25 rfl) (by decide) ?_
  replace h := h _ rfl
  refine xJ.iload_n (o_Integer_bitCount 26 rfl) rfl ?_
  refine xJ.iload_n (o_Integer_bitCount 27 rfl) rfl ?_
  refine xJ.bipush (v := 8) (o_Integer_bitCount 28 rfl) (by decide) ?_
  refine xJ.iushr (o_Integer_bitCount 29 rfl) rfl ?_
  refine xJ.iadd (o_Integer_bitCount 30 rfl) ?_
  refine xJ.istore_n (o_Integer_bitCount 31 rfl) (by decide) ?_
  replace h := h _ rfl
  refine xJ.iload_n (o_Integer_bitCount 32 rfl) rfl ?_
  refine xJ.iload_n (o_Integer_bitCount 33 rfl) rfl ?_
  refine xJ.bipush (v := 16) (o_Integer_bitCount 34 rfl) (by decide) ?_
  refine xJ.iushr (o_Integer_bitCount 35 rfl) rfl ?_
  refine xJ.iadd (o_Integer_bitCount 36 rfl) ?_
  refine xJ.istore_n (o_Integer_bitCount 37 rfl) (by decide) ?_
  replace h := h _ rfl
  refine xJ.iload_n (o_Integer_bitCount 38 rfl) rfl ?_
  refine xJ.bipush (v := 63) (o_Integer_bitCount 39 rfl) (by decide) ?_
  refine xJ.iand (o_Integer_bitCount 40 rfl) ?_
  exact xJ.ireturn (o_Integer_bitCount 41 rfl) rfl h
def wp_Words_trailingZeros (Q : xO → xS → Prop) (σ : xS) (a0 : Int32) : Prop :=
  wp_Integer_bitCount (xqi (fun r2 u1 => Q (.inl (some (.int r2))) u1) (fun n u => Q (.inr n) u)) σ ((a0 &&& (-a0)) - 1)
set_option maxRecDepth 20000 in
theorem s_Words_trailingZeros {γ : xG1} {d : Nat} {Q : xO → xS → Prop} {σ : xS} {a0 : Int32} (h : wp_Words_trailingZeros Q σ a0) : xM (SHP, γ) Y_Words_trailingZeros (d + 1) [.int a0] σ Q := by
  refine xM.of (by decide) (Nat.le_of_ble_eq_true rfl) ?_
  refine xJ.iload_n (o_Words_trailingZeros 0 rfl) rfl ?_
  refine xJ.iload_n (o_Words_trailingZeros 1 rfl) rfl ?_
  refine xJ.ineg (o_Words_trailingZeros 2 rfl) ?_
  refine xJ.iand (o_Words_trailingZeros 3 rfl) ?_
  refine xJ.iconst (v := 1) (o_Words_trailingZeros 4 rfl) (by decide) ?_
  refine xJ.isub (o_Words_trailingZeros 5 rfl) ?_
  refine xJ.callS (Y' := Y_Integer_bitCount) (o_Words_trailingZeros 6 rfl) m_Words_15 y_Integer_bitCount st_Integer_bitCount (s_Integer_bitCount h) rfl rfl (Nat.le_of_ble_eq_true rfl) (fun _ hx => by cases hx) (fun v u q => ?_) (fun n u q => q)
  obtain ⟨r, rfl, h⟩ := xqi_get q
  exact xJ.ireturn (o_Words_trailingZeros 7 rfl) rfl h
def wp_Words_quotient (Q : xO → xS → Prop) (σ : xS) (a0 : Int64) (a2 : Int64) : Prop :=
  ((¬ (lg_cmp a2 0) = 0 → ((0 ≤ (lg_cmp a2 0) → (¬ a2 = 0 ∧ (∀ x1 : Int64, x1 = (jlshl ((jlushr a0 1) / a2) 1) → (∀ x2 : Int64, x2 = (a0 - (x1 * a2)) → (((lg_cmp x2 0) < 0 → Q (.inl (some (.long (x1 + 1)))) σ) ∧ (¬ (lg_cmp x2 0) < 0 → ((0 ≤ (lg_cmp x2 a2) → Q (.inl (some (.long (x1 + 1)))) σ) ∧ (¬ 0 ≤ (lg_cmp x2 a2) → Q (.inl (some (.long x1))) σ)))))))) ∧ (¬ 0 ≤ (lg_cmp a2 0) → ((0 ≤ (lg_cmp a0 0) → Q (.inl (some (.long 0))) σ) ∧ (¬ 0 ≤ (lg_cmp a0 0) → (((lg_cmp a0 a2) < 0 → Q (.inl (some (.long 0))) σ) ∧ (¬ (lg_cmp a0 a2) < 0 → Q (.inl (some (.long 1))) σ))))))) ∧ ((lg_cmp a2 0) = 0 → Q (.inl (some (.long (-1)))) σ))
set_option maxRecDepth 20000 in
theorem s_Words_quotient {γ : xG1} {d : Nat} {Q : xO → xS → Prop} {σ : xS} {a0 : Int64} {a2 : Int64} (h : wp_Words_quotient Q σ a0 a2) : xM (SHP, γ) Y_Words_quotient (d + 0) [.long a0, .long a2] σ Q := by
  refine xM.of (by decide) (Nat.le_of_ble_eq_true rfl) ?_
  refine xJ.lload_n (o_Words_quotient 0 rfl) rfl ?_
  refine xJ.lconst (v := 0) (o_Words_quotient 1 rfl) (by decide) ?_
  refine xJ.lcmp (o_Words_quotient 2 rfl) ?_
  refine xJ.if_ne (tgt := 10) (o_Words_quotient 3 rfl) (by decide) (fun z => ?_) (fun z => ?_)
  · replace h := h.1 z
    refine xJ.lload_n (o_Words_quotient 6 rfl) rfl ?_
    refine xJ.lconst (v := 0) (o_Words_quotient 7 rfl) (by decide) ?_
    refine xJ.lcmp (o_Words_quotient 8 rfl) ?_
    refine xJ.if_ge (tgt := 34) (o_Words_quotient 9 rfl) (by decide) (fun z => ?_) (fun z => ?_)
    · replace h := h.1 z
      refine xJ.lload_n (o_Words_quotient 22 rfl) rfl ?_
      refine xJ.iconst (v := 1) (o_Words_quotient 23 rfl) (by decide) ?_
      refine xJ.lushr (o_Words_quotient 24 rfl) rfl ?_
      refine xJ.lload_n (o_Words_quotient 25 rfl) rfl ?_
      refine xJ.ldiv (o_Words_quotient 26 rfl) h.1 ?_
      replace h := h.2
      refine xJ.iconst (v := 1) (o_Words_quotient 27 rfl) (by decide) ?_
      refine xJ.lshl (o_Words_quotient 28 rfl) rfl ?_
      refine xJ.lstore (o_Words_quotient 29 rfl) (by decide) ?_
      replace h := h _ rfl
      refine xJ.lload_n (o_Words_quotient 30 rfl) rfl ?_
      refine xJ.lload (o_Words_quotient 31 rfl) rfl ?_
      refine xJ.lload_n (o_Words_quotient 32 rfl) rfl ?_
      refine xJ.lmul (o_Words_quotient 33 rfl) ?_
      refine xJ.lsub (o_Words_quotient 34 rfl) ?_
      refine xJ.lstore (o_Words_quotient 35 rfl) (by decide) ?_
      replace h := h _ rfl
      refine xJ.lload (o_Words_quotient 36 rfl) rfl ?_
      refine xJ.lconst (v := 0) (o_Words_quotient 37 rfl) (by decide) ?_
      refine xJ.lcmp (o_Words_quotient 38 rfl) ?_
      refine xJ.if_lt (tgt := 70) (o_Words_quotient 39 rfl) (by decide) (fun z => ?_) (fun z => ?_)
      · replace h := h.1 z
        refine xJ.lload (o_Words_quotient 46 rfl) rfl ?_
        refine xJ.lconst (v := 1) (o_Words_quotient 47 rfl) (by decide) ?_
        refine xJ.ladd (o_Words_quotient 48 rfl) ?_
        exact xJ.lreturn (o_Words_quotient 49 rfl) rfl h
      · replace h := h.2 z
        refine xJ.lload (o_Words_quotient 40 rfl) rfl ?_
        refine xJ.lload_n (o_Words_quotient 41 rfl) rfl ?_
        refine xJ.lcmp (o_Words_quotient 42 rfl) ?_
        refine xJ.if_ge (tgt := 70) (o_Words_quotient 43 rfl) (by decide) (fun z => ?_) (fun z => ?_)
        · replace h := h.1 z
          refine xJ.lload (o_Words_quotient 46 rfl) rfl ?_
          refine xJ.lconst (v := 1) (o_Words_quotient 47 rfl) (by decide) ?_
          refine xJ.ladd (o_Words_quotient 48 rfl) ?_
          exact xJ.lreturn (o_Words_quotient 49 rfl) rfl h
        · replace h := h.2 z
          refine xJ.lload (o_Words_quotient 44 rfl) rfl ?_
          refine xJ.goto (tgt := 74) (o_Words_quotient 45 rfl) (by decide) ?_
          exact xJ.lreturn (o_Words_quotient 49 rfl) rfl h
    · replace h := h.2 z
      refine xJ.lload_n (o_Words_quotient 10 rfl) rfl ?_
      refine xJ.lconst (v := 0) (o_Words_quotient 11 rfl) (by decide) ?_
      refine xJ.lcmp (o_Words_quotient 12 rfl) ?_
      refine xJ.if_ge (tgt := 32) (o_Words_quotient 13 rfl) (by decide) (fun z => ?_) (fun z => ?_)
      · replace h := h.1 z
        refine xJ.lconst (v := 0) (o_Words_quotient 20 rfl) (by decide) ?_
        exact xJ.lreturn (o_Words_quotient 21 rfl) rfl h
      · replace h := h.2 z
        refine xJ.lload_n (o_Words_quotient 14 rfl) rfl ?_
        refine xJ.lload_n (o_Words_quotient 15 rfl) rfl ?_
        refine xJ.lcmp (o_Words_quotient 16 rfl) ?_
        refine xJ.if_lt (tgt := 32) (o_Words_quotient 17 rfl) (by decide) (fun z => ?_) (fun z => ?_)
        · replace h := h.1 z
          refine xJ.lconst (v := 0) (o_Words_quotient 20 rfl) (by decide) ?_
          exact xJ.lreturn (o_Words_quotient 21 rfl) rfl h
        · replace h := h.2 z
          refine xJ.lconst (v := 1) (o_Words_quotient 18 rfl) (by decide) ?_
          refine xJ.goto (tgt := 33) (o_Words_quotient 19 rfl) (by decide) ?_
          exact xJ.lreturn (o_Words_quotient 21 rfl) rfl h
  · replace h := h.2 z
    refine xJ.ldc2 (v := (-1)) (o_Words_quotient 4 rfl) k_Words_9 ?_
    exact xJ.lreturn (o_Words_quotient 5 rfl) rfl h
def wp_Words_signedQuotient (Q : xO → xS → Prop) (σ : xS) (a0 : Int64) (a2 : Int64) : Prop :=
  ((¬ (lg_cmp a2 0) = 0 → (¬ a2 = 0 ∧ Q (.inl (some (.long (a0 / a2)))) σ)) ∧ ((lg_cmp a2 0) = 0 → ((0 ≤ (lg_cmp a0 0) → Q (.inl (some (.long (-1)))) σ) ∧ (¬ 0 ≤ (lg_cmp a0 0) → Q (.inl (some (.long 1))) σ))))
set_option maxRecDepth 20000 in
theorem s_Words_signedQuotient {γ : xG1} {d : Nat} {Q : xO → xS → Prop} {σ : xS} {a0 : Int64} {a2 : Int64} (h : wp_Words_signedQuotient Q σ a0 a2) : xM (SHP, γ) Y_Words_signedQuotient (d + 0) [.long a0, .long a2] σ Q := by
  refine xM.of (by decide) (Nat.le_of_ble_eq_true rfl) ?_
  refine xJ.lload_n (o_Words_signedQuotient 0 rfl) rfl ?_
  refine xJ.lconst (v := 0) (o_Words_signedQuotient 1 rfl) (by decide) ?_
  refine xJ.lcmp (o_Words_signedQuotient 2 rfl) ?_
  refine xJ.if_ne (tgt := 20) (o_Words_signedQuotient 3 rfl) (by decide) (fun z => ?_) (fun z => ?_)
  · replace h := h.1 z
    refine xJ.lload_n (o_Words_signedQuotient 12 rfl) rfl ?_
    refine xJ.lload_n (o_Words_signedQuotient 13 rfl) rfl ?_
    refine xJ.ldiv (o_Words_signedQuotient 14 rfl) h.1 ?_
    replace h := h.2
    exact xJ.lreturn (o_Words_signedQuotient 15 rfl) rfl h
  · replace h := h.2 z
    refine xJ.lload_n (o_Words_signedQuotient 4 rfl) rfl ?_
    refine xJ.lconst (v := 0) (o_Words_signedQuotient 5 rfl) (by decide) ?_
    refine xJ.lcmp (o_Words_signedQuotient 6 rfl) ?_
    refine xJ.if_ge (tgt := 16) (o_Words_signedQuotient 7 rfl) (by decide) (fun z => ?_) (fun z => ?_)
    · replace h := h.1 z
      refine xJ.ldc2 (v := (-1)) (o_Words_signedQuotient 10 rfl) k_Words_9 ?_
      exact xJ.lreturn (o_Words_signedQuotient 11 rfl) rfl h
    · replace h := h.2 z
      refine xJ.lconst (v := 1) (o_Words_signedQuotient 8 rfl) (by decide) ?_
      refine xJ.goto (tgt := 19) (o_Words_signedQuotient 9 rfl) (by decide) ?_
      exact xJ.lreturn (o_Words_signedQuotient 11 rfl) rfl h
def wp_Words_signedRest (Q : xO → xS → Prop) (σ : xS) (a0 : Int64) (a2 : Int64) : Prop :=
  ((¬ (lg_cmp a2 0) = 0 → (¬ a2 = 0 ∧ Q (.inl (some (.long (a0 - a0 / a2 * a2)))) σ)) ∧ ((lg_cmp a2 0) = 0 → Q (.inl (some (.long a0))) σ))
set_option maxRecDepth 20000 in
theorem s_Words_signedRest {γ : xG1} {d : Nat} {Q : xO → xS → Prop} {σ : xS} {a0 : Int64} {a2 : Int64} (h : wp_Words_signedRest Q σ a0 a2) : xM (SHP, γ) Y_Words_signedRest (d + 0) [.long a0, .long a2] σ Q := by
  refine xM.of (by decide) (Nat.le_of_ble_eq_true rfl) ?_
  refine xJ.lload_n (o_Words_signedRest 0 rfl) rfl ?_
  refine xJ.lconst (v := 0) (o_Words_signedRest 1 rfl) (by decide) ?_
  refine xJ.lcmp (o_Words_signedRest 2 rfl) ?_
  refine xJ.if_ne (tgt := 10) (o_Words_signedRest 3 rfl) (by decide) (fun z => ?_) (fun z => ?_)
  · replace h := h.1 z
    refine xJ.lload_n (o_Words_signedRest 6 rfl) rfl ?_
    refine xJ.lload_n (o_Words_signedRest 7 rfl) rfl ?_
    refine xJ.lrem (o_Words_signedRest 8 rfl) h.1 ?_
    replace h := h.2
    exact xJ.lreturn (o_Words_signedRest 9 rfl) rfl h
  · replace h := h.2 z
    refine xJ.lload_n (o_Words_signedRest 4 rfl) rfl ?_
    refine xJ.goto (tgt := 13) (o_Words_signedRest 5 rfl) (by decide) ?_
    exact xJ.lreturn (o_Words_signedRest 9 rfl) rfl h
def wp_Words_signShift (Q : xO → xS → Prop) (σ : xS) (a0 : Int64) (a2 : Int32) : Prop :=
  (((lg_cmp a0 0) < 0 → Q (.inl (some (.int (a2 - 1)))) σ) ∧ (¬ (lg_cmp a0 0) < 0 → ((0 ≤ (lg_cmp a0 a2.toInt64) → Q (.inl (some (.int (a2 - 1)))) σ) ∧ (¬ 0 ≤ (lg_cmp a0 a2.toInt64) → Q (.inl (some (.int a0.toInt32))) σ))))
set_option maxRecDepth 20000 in
theorem s_Words_signShift {γ : xG1} {d : Nat} {Q : xO → xS → Prop} {σ : xS} {a0 : Int64} {a2 : Int32} (h : wp_Words_signShift Q σ a0 a2) : xM (SHP, γ) Y_Words_signShift (d + 0) [.long a0, .int a2] σ Q := by
  refine xM.of (by decide) (Nat.le_of_ble_eq_true rfl) ?_
  refine xJ.lload_n (o_Words_signShift 0 rfl) rfl ?_
  refine xJ.lconst (v := 0) (o_Words_signShift 1 rfl) (by decide) ?_
  refine xJ.lcmp (o_Words_signShift 2 rfl) ?_
  refine xJ.if_lt (tgt := 18) (o_Words_signShift 3 rfl) (by decide) (fun z => ?_) (fun z => ?_)
  · replace h := h.1 z
    refine xJ.iload_n (o_Words_signShift 12 rfl) rfl ?_
    refine xJ.iconst (v := 1) (o_Words_signShift 13 rfl) (by decide) ?_
    refine xJ.isub (o_Words_signShift 14 rfl) ?_
    exact xJ.ireturn (o_Words_signShift 15 rfl) rfl h
  · replace h := h.2 z
    refine xJ.lload_n (o_Words_signShift 4 rfl) rfl ?_
    refine xJ.iload_n (o_Words_signShift 5 rfl) rfl ?_
    refine xJ.i2l (o_Words_signShift 6 rfl) rfl ?_
    refine xJ.lcmp (o_Words_signShift 7 rfl) ?_
    refine xJ.if_ge (tgt := 18) (o_Words_signShift 8 rfl) (by decide) (fun z => ?_) (fun z => ?_)
    · replace h := h.1 z
      refine xJ.iload_n (o_Words_signShift 12 rfl) rfl ?_
      refine xJ.iconst (v := 1) (o_Words_signShift 13 rfl) (by decide) ?_
      refine xJ.isub (o_Words_signShift 14 rfl) ?_
      exact xJ.ireturn (o_Words_signShift 15 rfl) rfl h
    · replace h := h.2 z
      refine xJ.lload_n (o_Words_signShift 9 rfl) rfl ?_
      refine xJ.l2i (o_Words_signShift 10 rfl) rfl ?_
      refine xJ.goto (tgt := 21) (o_Words_signShift 11 rfl) (by decide) ?_
      exact xJ.ireturn (o_Words_signShift 15 rfl) rfl h
theorem sc_Words_two_1 {x : Int32} {P : Nat → Prop} (k0 : x = 28 → P 48) (k1 : x = 29 → P 52) (k2 : x = 30 → P 58) (k3 : x = 31 → P 68) (k4 : x = 32 → P 84) (k5 : x = 33 → P 100) (k6 : x = 34 → P 119) (k7 : x = 35 → P 138) (kd : ¬ x = 28 ∧ ¬ x = 29 ∧ ¬ x = 30 ∧ ¬ x = 31 ∧ ¬ x = 32 ∧ ¬ x = 33 ∧ ¬ x = 34 ∧ ¬ x = 35 → P 152) : ∃ t : Nat, xdst 1 151 28 35 #[47, 51, 57, 67, 83, 99, 118, 137] x = (t : Int) ∧ P t := by
  by_cases h0_0 : x = 28
  · subst h0_0; exact ⟨48, by decide, k0 (rfl)⟩
  by_cases h1_0 : x = 29
  · subst h1_0; exact ⟨52, by decide, k1 (rfl)⟩
  by_cases h2_0 : x = 30
  · subst h2_0; exact ⟨58, by decide, k2 (rfl)⟩
  by_cases h3_0 : x = 31
  · subst h3_0; exact ⟨68, by decide, k3 (rfl)⟩
  by_cases h4_0 : x = 32
  · subst h4_0; exact ⟨84, by decide, k4 (rfl)⟩
  by_cases h5_0 : x = 33
  · subst h5_0; exact ⟨100, by decide, k5 (rfl)⟩
  by_cases h6_0 : x = 34
  · subst h6_0; exact ⟨119, by decide, k6 (rfl)⟩
  by_cases h7_0 : x = 35
  · subst h7_0; exact ⟨138, by decide, k7 (rfl)⟩
  have nh0_0 := lv_neT h0_0 (show (28 : Int32).toInt = 28 by decide)
  have nh1_0 := lv_neT h1_0 (show (29 : Int32).toInt = 29 by decide)
  have nh2_0 := lv_neT h2_0 (show (30 : Int32).toInt = 30 by decide)
  have nh3_0 := lv_neT h3_0 (show (31 : Int32).toInt = 31 by decide)
  have nh4_0 := lv_neT h4_0 (show (32 : Int32).toInt = 32 by decide)
  have nh5_0 := lv_neT h5_0 (show (33 : Int32).toInt = 33 by decide)
  have nh6_0 := lv_neT h6_0 (show (34 : Int32).toInt = 34 by decide)
  have nh7_0 := lv_neT h7_0 (show (35 : Int32).toInt = 35 by decide)
  refine ⟨152, ?_, kd ⟨h0_0, h1_0, h2_0, h3_0, h4_0, h5_0, h6_0, h7_0⟩⟩
  exact xdst_out (by omega) rfl
def wp_Words_two (Q : xO → xS → Prop) (σ : xS) (a0 : Int32) (a1 : Int64) (a3 : Int64) (a5 : Int32) : Prop :=
  ((a0 = 28 → Q (.inl (some (.long (a1 - a3)))) σ) ∧ (a0 = 29 → wp_Words_quotient (xql (fun r2 u1 => Q (.inl (some (.long r2))) u1) (fun n u => Q (.inr n) u)) σ a1 a3) ∧ (a0 = 30 → wp_Words_quotient (xql (fun r4 u3 => Q (.inl (some (.long (a1 - (r4 * a3))))) u3) (fun n u => Q (.inr n) u)) σ a1 a3) ∧ (a0 = 31 → wp_Words_signed (xql (fun r6 u5 => wp_Words_signed (xql (fun r8 u7 => wp_Words_signedQuotient (xql (fun r10 u9 => Q (.inl (some (.long r10))) u9) (fun n u => Q (.inr n) u)) u7 r6 r8) (fun n u => Q (.inr n) u)) u5 a3 a5) (fun n u => Q (.inr n) u)) σ a1 a5) ∧ (a0 = 32 → wp_Words_signed (xql (fun r12 u11 => wp_Words_signed (xql (fun r14 u13 => wp_Words_signedRest (xql (fun r16 u15 => Q (.inl (some (.long r16))) u15) (fun n u => Q (.inr n) u)) u13 r12 r14) (fun n u => Q (.inr n) u)) u11 a3 a5) (fun n u => Q (.inr n) u)) σ a1 a5) ∧ (a0 = 33 → wp_Words_less (xqi (fun r18 u17 => ((r18 = 0 → Q (.inl (some (.long 0))) u17) ∧ (¬ r18 = 0 → Q (.inl (some (.long (jlshl a1 a3.toInt32)))) u17))) (fun n u => Q (.inr n) u)) σ a3 a5.toInt64) ∧ (a0 = 34 → wp_Words_less (xqi (fun r20 u19 => ((r20 = 0 → Q (.inl (some (.long 0))) u19) ∧ (¬ r20 = 0 → Q (.inl (some (.long (jlushr a1 a3.toInt32)))) u19))) (fun n u => Q (.inr n) u)) σ a3 a5.toInt64) ∧ (a0 = 35 → wp_Words_signed (xql (fun r22 u21 => wp_Words_signShift (xqi (fun r24 u23 => Q (.inl (some (.long (jlshr r22 r24)))) u23) (fun n u => Q (.inr n) u)) u21 a3 a5) (fun n u => Q (.inr n) u)) σ a1 a5) ∧ (¬ a0 = 28 ∧ ¬ a0 = 29 ∧ ¬ a0 = 30 ∧ ¬ a0 = 31 ∧ ¬ a0 = 32 ∧ ¬ a0 = 33 ∧ ¬ a0 = 34 ∧ ¬ a0 = 35 → Q (.inl (some (.long 0))) σ))
set_option maxRecDepth 20000 in
theorem s_Words_two {γ : xG1} {d : Nat} {Q : xO → xS → Prop} {σ : xS} {a0 : Int32} {a1 : Int64} {a3 : Int64} {a5 : Int32} (h : wp_Words_two Q σ a0 a1 a3 a5) : xM (SHP, γ) Y_Words_two (d + 1) [.int a0, .long a1, .long a3, .int a5] σ Q := by
  refine xM.of (by decide) (Nat.le_of_ble_eq_true rfl) ?_
  refine xJ.iload_n (o_Words_two 0 rfl) rfl ?_
  refine xJ.tsw (o_Words_two 1 rfl) (by decide) (sc_Words_two_1 (fun z => ?_) (fun z => ?_) (fun z => ?_) (fun z => ?_) (fun z => ?_) (fun z => ?_) (fun z => ?_) (fun z => ?_) (fun z => ?_))
  · replace h := h.1 z
    refine xJ.lload_n (o_Words_two 2 rfl) rfl ?_
    refine xJ.lload_n (o_Words_two 3 rfl) rfl ?_
    refine xJ.lsub (o_Words_two 4 rfl) ?_
    exact xJ.lreturn (o_Words_two 5 rfl) rfl h
  · replace h := h.2.1 z
    refine xJ.lload_n (o_Words_two 6 rfl) rfl ?_
    refine xJ.lload_n (o_Words_two 7 rfl) rfl ?_
    refine xJ.callS (Y' := Y_Words_quotient) (o_Words_two 8 rfl) m_Words_21 y_Words_quotient st_Words_quotient (s_Words_quotient h) rfl rfl (Nat.le_of_ble_eq_true rfl) (fun _ hx => by cases hx) (fun v u q => ?_) (fun n u q => q)
    obtain ⟨r, rfl, h⟩ := xql_get q
    exact xJ.lreturn (o_Words_two 9 rfl) rfl h
  · replace h := h.2.2.1 z
    refine xJ.lload_n (o_Words_two 10 rfl) rfl ?_
    refine xJ.lload_n (o_Words_two 11 rfl) rfl ?_
    refine xJ.lload_n (o_Words_two 12 rfl) rfl ?_
    refine xJ.callS (Y' := Y_Words_quotient) (o_Words_two 13 rfl) m_Words_21 y_Words_quotient st_Words_quotient (s_Words_quotient h) rfl rfl (Nat.le_of_ble_eq_true rfl) (fun _ hx => by cases hx) (fun v u q => ?_) (fun n u q => q)
    obtain ⟨r, rfl, h⟩ := xql_get q
    refine xJ.lload_n (o_Words_two 14 rfl) rfl ?_
    refine xJ.lmul (o_Words_two 15 rfl) ?_
    refine xJ.lsub (o_Words_two 16 rfl) ?_
    exact xJ.lreturn (o_Words_two 17 rfl) rfl h
  · replace h := h.2.2.2.1 z
    refine xJ.lload_n (o_Words_two 18 rfl) rfl ?_
    refine xJ.iload (o_Words_two 19 rfl) rfl ?_
    refine xJ.callS (Y' := Y_Words_signed) (o_Words_two 20 rfl) m_Words_27 y_Words_signed st_Words_signed (s_Words_signed h) rfl rfl (Nat.le_of_ble_eq_true rfl) (fun _ hx => by cases hx) (fun v u q => ?_) (fun n u q => q)
    obtain ⟨r, rfl, h⟩ := xql_get q
    refine xJ.lload_n (o_Words_two 21 rfl) rfl ?_
    refine xJ.iload (o_Words_two 22 rfl) rfl ?_
    refine xJ.callS (Y' := Y_Words_signed) (o_Words_two 23 rfl) m_Words_27 y_Words_signed st_Words_signed (s_Words_signed h) rfl rfl (Nat.le_of_ble_eq_true rfl) (fun _ hx => by cases hx) (fun v u q => ?_) (fun n u q => q)
    obtain ⟨r, rfl, h⟩ := xql_get q
    refine xJ.callS (Y' := Y_Words_signedQuotient) (o_Words_two 24 rfl) m_Words_31 y_Words_signedQuotient st_Words_signedQuotient (s_Words_signedQuotient h) rfl rfl (Nat.le_of_ble_eq_true rfl) (fun _ hx => by cases hx) (fun v u q => ?_) (fun n u q => q)
    obtain ⟨r, rfl, h⟩ := xql_get q
    exact xJ.lreturn (o_Words_two 25 rfl) rfl h
  · replace h := h.2.2.2.2.1 z
    refine xJ.lload_n (o_Words_two 26 rfl) rfl ?_
    refine xJ.iload (o_Words_two 27 rfl) rfl ?_
    refine xJ.callS (Y' := Y_Words_signed) (o_Words_two 28 rfl) m_Words_27 y_Words_signed st_Words_signed (s_Words_signed h) rfl rfl (Nat.le_of_ble_eq_true rfl) (fun _ hx => by cases hx) (fun v u q => ?_) (fun n u q => q)
    obtain ⟨r, rfl, h⟩ := xql_get q
    refine xJ.lload_n (o_Words_two 29 rfl) rfl ?_
    refine xJ.iload (o_Words_two 30 rfl) rfl ?_
    refine xJ.callS (Y' := Y_Words_signed) (o_Words_two 31 rfl) m_Words_27 y_Words_signed st_Words_signed (s_Words_signed h) rfl rfl (Nat.le_of_ble_eq_true rfl) (fun _ hx => by cases hx) (fun v u q => ?_) (fun n u q => q)
    obtain ⟨r, rfl, h⟩ := xql_get q
    refine xJ.callS (Y' := Y_Words_signedRest) (o_Words_two 32 rfl) m_Words_34 y_Words_signedRest st_Words_signedRest (s_Words_signedRest h) rfl rfl (Nat.le_of_ble_eq_true rfl) (fun _ hx => by cases hx) (fun v u q => ?_) (fun n u q => q)
    obtain ⟨r, rfl, h⟩ := xql_get q
    exact xJ.lreturn (o_Words_two 33 rfl) rfl h
  · replace h := h.2.2.2.2.2.1 z
    refine xJ.lload_n (o_Words_two 34 rfl) rfl ?_
    refine xJ.iload (o_Words_two 35 rfl) rfl ?_
    refine xJ.i2l (o_Words_two 36 rfl) rfl ?_
    refine xJ.callS (Y' := Y_Words_less) (o_Words_two 37 rfl) m_Words_37 y_Words_less st_Words_less (s_Words_less h) rfl rfl (Nat.le_of_ble_eq_true rfl) (fun _ hx => by cases hx) (fun v u q => ?_) (fun n u q => q)
    obtain ⟨r, rfl, h⟩ := xqi_get q
    refine xJ.if_eq (tgt := 117) (o_Words_two 38 rfl) (by decide) (fun z => ?_) (fun z => ?_)
    · replace h := h.1 z
      refine xJ.lconst (v := 0) (o_Words_two 44 rfl) (by decide) ?_
      exact xJ.lreturn (o_Words_two 45 rfl) rfl h
    · replace h := h.2 z
      refine xJ.lload_n (o_Words_two 39 rfl) rfl ?_
      refine xJ.lload_n (o_Words_two 40 rfl) rfl ?_
      refine xJ.l2i (o_Words_two 41 rfl) rfl ?_
      refine xJ.lshl (o_Words_two 42 rfl) rfl ?_
      refine xJ.goto (tgt := 118) (o_Words_two 43 rfl) (by decide) ?_
      exact xJ.lreturn (o_Words_two 45 rfl) rfl h
  · replace h := h.2.2.2.2.2.2.1 z
    refine xJ.lload_n (o_Words_two 46 rfl) rfl ?_
    refine xJ.iload (o_Words_two 47 rfl) rfl ?_
    refine xJ.i2l (o_Words_two 48 rfl) rfl ?_
    refine xJ.callS (Y' := Y_Words_less) (o_Words_two 49 rfl) m_Words_37 y_Words_less st_Words_less (s_Words_less h) rfl rfl (Nat.le_of_ble_eq_true rfl) (fun _ hx => by cases hx) (fun v u q => ?_) (fun n u q => q)
    obtain ⟨r, rfl, h⟩ := xqi_get q
    refine xJ.if_eq (tgt := 136) (o_Words_two 50 rfl) (by decide) (fun z => ?_) (fun z => ?_)
    · replace h := h.1 z
      refine xJ.lconst (v := 0) (o_Words_two 56 rfl) (by decide) ?_
      exact xJ.lreturn (o_Words_two 57 rfl) rfl h
    · replace h := h.2 z
      refine xJ.lload_n (o_Words_two 51 rfl) rfl ?_
      refine xJ.lload_n (o_Words_two 52 rfl) rfl ?_
      refine xJ.l2i (o_Words_two 53 rfl) rfl ?_
      refine xJ.lushr (o_Words_two 54 rfl) rfl ?_
      refine xJ.goto (tgt := 137) (o_Words_two 55 rfl) (by decide) ?_
      exact xJ.lreturn (o_Words_two 57 rfl) rfl h
  · replace h := h.2.2.2.2.2.2.2.1 z
    refine xJ.lload_n (o_Words_two 58 rfl) rfl ?_
    refine xJ.iload (o_Words_two 59 rfl) rfl ?_
    refine xJ.callS (Y' := Y_Words_signed) (o_Words_two 60 rfl) m_Words_27 y_Words_signed st_Words_signed (s_Words_signed h) rfl rfl (Nat.le_of_ble_eq_true rfl) (fun _ hx => by cases hx) (fun v u q => ?_) (fun n u q => q)
    obtain ⟨r, rfl, h⟩ := xql_get q
    refine xJ.lload_n (o_Words_two 61 rfl) rfl ?_
    refine xJ.iload (o_Words_two 62 rfl) rfl ?_
    refine xJ.callS (Y' := Y_Words_signShift) (o_Words_two 63 rfl) m_Words_41 y_Words_signShift st_Words_signShift (s_Words_signShift h) rfl rfl (Nat.le_of_ble_eq_true rfl) (fun _ hx => by cases hx) (fun v u q => ?_) (fun n u q => q)
    obtain ⟨r, rfl, h⟩ := xqi_get q
    refine xJ.lshr (o_Words_two 64 rfl) rfl ?_
    exact xJ.lreturn (o_Words_two 65 rfl) rfl h
  · replace h := h.2.2.2.2.2.2.2.2 z
    refine xJ.lconst (v := 0) (o_Words_two 66 rfl) (by decide) ?_
    exact xJ.lreturn (o_Words_two 67 rfl) rfl h
def wp_Words_turned (Q : xO → xS → Prop) (σ : xS) (a0 : Int32) (a1 : Int32) : Prop :=
  ((a0 < 40 → Q (.inl (some (.long 0))) σ) ∧ (¬ a0 < 40 → Q (.inl (some (.long (jlshl 1 (a1 - 1))))) σ))
set_option maxRecDepth 20000 in
theorem s_Words_turned {γ : xG1} {d : Nat} {Q : xO → xS → Prop} {σ : xS} {a0 : Int32} {a1 : Int32} (h : wp_Words_turned Q σ a0 a1) : xM (SHP, γ) Y_Words_turned (d + 0) [.int a0, .int a1] σ Q := by
  refine xM.of (by decide) (Nat.le_of_ble_eq_true rfl) ?_
  refine xJ.iload_n (o_Words_turned 0 rfl) rfl ?_
  refine xJ.bipush (v := 40) (o_Words_turned 1 rfl) (by decide) ?_
  refine xJ.icmp_lt (tgt := 14) (o_Words_turned 2 rfl) (by decide) (fun z => ?_) (fun z => ?_)
  · replace h := h.1 z
    refine xJ.lconst (v := 0) (o_Words_turned 9 rfl) (by decide) ?_
    exact xJ.lreturn (o_Words_turned 10 rfl) rfl h
  · replace h := h.2 z
    refine xJ.lconst (v := 1) (o_Words_turned 3 rfl) (by decide) ?_
    refine xJ.iload_n (o_Words_turned 4 rfl) rfl ?_
    refine xJ.iconst (v := 1) (o_Words_turned 5 rfl) (by decide) ?_
    refine xJ.isub (o_Words_turned 6 rfl) ?_
    refine xJ.lshl (o_Words_turned 7 rfl) rfl ?_
    refine xJ.goto (tgt := 15) (o_Words_turned 8 rfl) (by decide) ?_
    exact xJ.lreturn (o_Words_turned 10 rfl) rfl h
theorem sc_Words_compare_9 {x : Int32} {P : Nat → Prop} (k0 : x = 36 ∨ x = 40 → P 52) (k1 : x = 37 ∨ x = 41 → P 64) (k2 : x = 38 ∨ x = 42 → P 84) (kd : ¬ x = 36 ∧ ¬ x = 37 ∧ ¬ x = 38 ∧ ¬ x = 40 ∧ ¬ x = 41 ∧ ¬ x = 42 → P 96) : ∃ t : Nat, xdst 9 87 36 42 #[43, 55, 75, 87, 43, 55, 75] x = (t : Int) ∧ P t := by
  by_cases h0_0 : x = 36
  · subst h0_0; exact ⟨52, by decide, k0 (Or.inl rfl)⟩
  by_cases h0_1 : x = 40
  · subst h0_1; exact ⟨52, by decide, k0 (Or.inr (rfl))⟩
  by_cases h1_0 : x = 37
  · subst h1_0; exact ⟨64, by decide, k1 (Or.inl rfl)⟩
  by_cases h1_1 : x = 41
  · subst h1_1; exact ⟨64, by decide, k1 (Or.inr (rfl))⟩
  by_cases h2_0 : x = 38
  · subst h2_0; exact ⟨84, by decide, k2 (Or.inl rfl)⟩
  by_cases h2_1 : x = 42
  · subst h2_1; exact ⟨84, by decide, k2 (Or.inr (rfl))⟩
  have nh0_0 := lv_neT h0_0 (show (36 : Int32).toInt = 36 by decide)
  have nh0_1 := lv_neT h0_1 (show (40 : Int32).toInt = 40 by decide)
  have nh1_0 := lv_neT h1_0 (show (37 : Int32).toInt = 37 by decide)
  have nh1_1 := lv_neT h1_1 (show (41 : Int32).toInt = 41 by decide)
  have nh2_0 := lv_neT h2_0 (show (38 : Int32).toInt = 38 by decide)
  have nh2_1 := lv_neT h2_1 (show (42 : Int32).toInt = 42 by decide)
  refine ⟨96, ?_, kd ⟨h0_0, h1_0, h2_0, h0_1, h1_1, h2_1⟩⟩
  by_cases d3 : x = 39
  · subst d3; decide
  have nd3 := lv_neT d3 (show (39 : Int32).toInt = 39 by decide)
  exact xdst_out (by omega) rfl
def wp_Words_compare (Q : xO → xS → Prop) (σ : xS) (a0 : Int32) (a1 : Int64) (a3 : Int64) (a5 : Int32) : Prop :=
  wp_Words_turned (xql (fun r2 u1 => ((a0 = 36 ∨ a0 = 40 → wp_Words_less (xqi (fun r4 u3 => ((r4 = 0 ∨ r4 = 1) ∧ Q (.inl (some (.int r4))) u3)) (fun n u => Q (.inr n) u)) u1 (a1 ^^^ r2) (a3 ^^^ r2)) ∧ (a0 = 37 ∨ a0 = 41 → wp_Words_less (xqi (fun r6 u5 => ((¬ r6 = 0 → Q (.inl (some (.int 0))) u5) ∧ (r6 = 0 → Q (.inl (some (.int 1))) u5))) (fun n u => Q (.inr n) u)) u1 (a3 ^^^ r2) (a1 ^^^ r2)) ∧ (a0 = 38 ∨ a0 = 42 → wp_Words_less (xqi (fun r8 u7 => ((r8 = 0 ∨ r8 = 1) ∧ Q (.inl (some (.int r8))) u7)) (fun n u => Q (.inr n) u)) u1 (a3 ^^^ r2) (a1 ^^^ r2)) ∧ (¬ a0 = 36 ∧ ¬ a0 = 37 ∧ ¬ a0 = 38 ∧ ¬ a0 = 40 ∧ ¬ a0 = 41 ∧ ¬ a0 = 42 → wp_Words_less (xqi (fun r10 u9 => ((¬ r10 = 0 → Q (.inl (some (.int 0))) u9) ∧ (r10 = 0 → Q (.inl (some (.int 1))) u9))) (fun n u => Q (.inr n) u)) u1 (a1 ^^^ r2) (a3 ^^^ r2)))) (fun n u => Q (.inr n) u)) σ a0 a5
set_option maxRecDepth 20000 in
theorem s_Words_compare {γ : xG1} {d : Nat} {Q : xO → xS → Prop} {σ : xS} {a0 : Int32} {a1 : Int64} {a3 : Int64} {a5 : Int32} (h : wp_Words_compare Q σ a0 a1 a3 a5) : xM (SHP, γ) Y_Words_compare (d + 1) [.int a0, .long a1, .long a3, .int a5] σ Q := by
  refine xM.of (by decide) (Nat.le_of_ble_eq_true rfl) ?_
  refine xJ.iload_n (o_Words_compare 0 rfl) rfl ?_
  refine xJ.iload (o_Words_compare 1 rfl) rfl ?_
  refine xJ.callS (Y' := Y_Words_turned) (o_Words_compare 2 rfl) m_Words_45 y_Words_turned st_Words_turned (s_Words_turned h) rfl rfl (Nat.le_of_ble_eq_true rfl) (fun _ hx => by cases hx) (fun v u q => ?_) (fun n u q => q)
  obtain ⟨r, rfl, h⟩ := xql_get q
  refine xJ.lstore (o_Words_compare 3 rfl) (by decide) ?_
  refine xJ.iload_n (o_Words_compare 4 rfl) rfl ?_
  refine xJ.tsw (o_Words_compare 5 rfl) (by decide) (sc_Words_compare_9 (fun z => ?_) (fun z => ?_) (fun z => ?_) (fun z => ?_))
  · replace h := h.1 z
    refine xJ.lload_n (o_Words_compare 6 rfl) rfl ?_
    refine xJ.lload (o_Words_compare 7 rfl) rfl ?_
    refine xJ.lxor (o_Words_compare 8 rfl) ?_
    refine xJ.lload_n (o_Words_compare 9 rfl) rfl ?_
    refine xJ.lload (o_Words_compare 10 rfl) rfl ?_
    refine xJ.lxor (o_Words_compare 11 rfl) ?_
    refine xJ.callS (Y' := Y_Words_less) (o_Words_compare 12 rfl) m_Words_37 y_Words_less st_Words_less (s_Words_less h) rfl rfl (Nat.le_of_ble_eq_true rfl) (fun _ hx => by cases hx) (fun v u q => ?_) (fun n u q => q)
    obtain ⟨r, rfl, h⟩ := xqi_get q
    exact xJ.zreturn (o_Words_compare 13 rfl) rfl h.1 h.2
  · replace h := h.2.1 z
    refine xJ.lload_n (o_Words_compare 14 rfl) rfl ?_
    refine xJ.lload (o_Words_compare 15 rfl) rfl ?_
    refine xJ.lxor (o_Words_compare 16 rfl) ?_
    refine xJ.lload_n (o_Words_compare 17 rfl) rfl ?_
    refine xJ.lload (o_Words_compare 18 rfl) rfl ?_
    refine xJ.lxor (o_Words_compare 19 rfl) ?_
    refine xJ.callS (Y' := Y_Words_less) (o_Words_compare 20 rfl) m_Words_37 y_Words_less st_Words_less (s_Words_less h) rfl rfl (Nat.le_of_ble_eq_true rfl) (fun _ hx => by cases hx) (fun v u q => ?_) (fun n u q => q)
    obtain ⟨r, rfl, h⟩ := xqi_get q
    refine xJ.if_ne (tgt := 82) (o_Words_compare 21 rfl) (by decide) (fun z => ?_) (fun z => ?_)
    · replace h := h.1 z
      refine xJ.iconst (v := 0) (o_Words_compare 24 rfl) (by decide) ?_
      exact xJ.zreturn (o_Words_compare 25 rfl) rfl (Or.inl rfl) h
    · replace h := h.2 z
      refine xJ.iconst (v := 1) (o_Words_compare 22 rfl) (by decide) ?_
      refine xJ.goto (tgt := 83) (o_Words_compare 23 rfl) (by decide) ?_
      exact xJ.zreturn (o_Words_compare 25 rfl) rfl (Or.inr rfl) h
  · replace h := h.2.2.1 z
    refine xJ.lload_n (o_Words_compare 26 rfl) rfl ?_
    refine xJ.lload (o_Words_compare 27 rfl) rfl ?_
    refine xJ.lxor (o_Words_compare 28 rfl) ?_
    refine xJ.lload_n (o_Words_compare 29 rfl) rfl ?_
    refine xJ.lload (o_Words_compare 30 rfl) rfl ?_
    refine xJ.lxor (o_Words_compare 31 rfl) ?_
    refine xJ.callS (Y' := Y_Words_less) (o_Words_compare 32 rfl) m_Words_37 y_Words_less st_Words_less (s_Words_less h) rfl rfl (Nat.le_of_ble_eq_true rfl) (fun _ hx => by cases hx) (fun v u q => ?_) (fun n u q => q)
    obtain ⟨r, rfl, h⟩ := xqi_get q
    exact xJ.zreturn (o_Words_compare 33 rfl) rfl h.1 h.2
  · replace h := h.2.2.2 z
    refine xJ.lload_n (o_Words_compare 34 rfl) rfl ?_
    refine xJ.lload (o_Words_compare 35 rfl) rfl ?_
    refine xJ.lxor (o_Words_compare 36 rfl) ?_
    refine xJ.lload_n (o_Words_compare 37 rfl) rfl ?_
    refine xJ.lload (o_Words_compare 38 rfl) rfl ?_
    refine xJ.lxor (o_Words_compare 39 rfl) ?_
    refine xJ.callS (Y' := Y_Words_less) (o_Words_compare 40 rfl) m_Words_37 y_Words_less st_Words_less (s_Words_less h) rfl rfl (Nat.le_of_ble_eq_true rfl) (fun _ hx => by cases hx) (fun v u q => ?_) (fun n u q => q)
    obtain ⟨r, rfl, h⟩ := xqi_get q
    refine xJ.if_ne (tgt := 114) (o_Words_compare 41 rfl) (by decide) (fun z => ?_) (fun z => ?_)
    · replace h := h.1 z
      refine xJ.iconst (v := 0) (o_Words_compare 44 rfl) (by decide) ?_
      exact xJ.zreturn (o_Words_compare 45 rfl) rfl (Or.inl rfl) h
    · replace h := h.2 z
      refine xJ.iconst (v := 1) (o_Words_compare 42 rfl) (by decide) ?_
      refine xJ.goto (tgt := 115) (o_Words_compare 43 rfl) (by decide) ?_
      exact xJ.zreturn (o_Words_compare 45 rfl) rfl (Or.inr rfl) h
def wp_Sorts_array (Q : xO → xS → Prop) (σ : xS) (a0 : Int32) (a1 : Int32) : Prop :=
  Q (.inl (some (.int ((jishl a0 7) + a1)))) σ
set_option maxRecDepth 20000 in
theorem s_Sorts_array {γ : xG1} {d : Nat} {Q : xO → xS → Prop} {σ : xS} {a0 : Int32} {a1 : Int32} (h : wp_Sorts_array Q σ a0 a1) : xM (SHP, γ) Y_Sorts_array (d + 0) [.int a0, .int a1] σ Q := by
  refine xM.of (by decide) (Nat.le_of_ble_eq_true rfl) ?_
  refine xJ.iload_n (o_Sorts_array 0 rfl) rfl ?_
  refine xJ.bipush (v := 7) (o_Sorts_array 1 rfl) (by decide) ?_
  refine xJ.ishl (o_Sorts_array 2 rfl) ?_
  refine xJ.iload_n (o_Sorts_array 3 rfl) rfl ?_
  refine xJ.iadd (o_Sorts_array 4 rfl) ?_
  exact xJ.ireturn (o_Sorts_array 5 rfl) rfl h
def wp_Sorts_isArray (Q : xO → xS → Prop) (σ : xS) (a0 : Int32) : Prop :=
  ((a0 ≤ 127 → Q (.inl (some (.int 0))) σ) ∧ (¬ a0 ≤ 127 → Q (.inl (some (.int 1))) σ))
set_option maxRecDepth 20000 in
theorem s_Sorts_isArray {γ : xG1} {d : Nat} {Q : xO → xS → Prop} {σ : xS} {a0 : Int32} (h : wp_Sorts_isArray Q σ a0) : xM (SHP, γ) Y_Sorts_isArray (d + 0) [.int a0] σ Q := by
  refine xM.of (by decide) (Nat.le_of_ble_eq_true rfl) ?_
  refine xJ.iload_n (o_Sorts_isArray 0 rfl) rfl ?_
  refine xJ.bipush (v := 127) (o_Sorts_isArray 1 rfl) (by decide) ?_
  refine xJ.icmp_le (tgt := 10) (o_Sorts_isArray 2 rfl) (by decide) (fun z => ?_) (fun z => ?_)
  · replace h := h.1 z
    refine xJ.iconst (v := 0) (o_Sorts_isArray 5 rfl) (by decide) ?_
    exact xJ.zreturn (o_Sorts_isArray 6 rfl) rfl (Or.inl rfl) h
  · replace h := h.2 z
    refine xJ.iconst (v := 1) (o_Sorts_isArray 3 rfl) (by decide) ?_
    refine xJ.goto (tgt := 11) (o_Sorts_isArray 4 rfl) (by decide) ?_
    exact xJ.zreturn (o_Sorts_isArray 6 rfl) rfl (Or.inr rfl) h
def wp_Sorts_isVector (Q : xO → xS → Prop) (σ : xS) (a0 : Int32) : Prop :=
  ((a0 ≤ 0 → Q (.inl (some (.int 0))) σ) ∧ (¬ a0 ≤ 0 → ((127 < a0 → Q (.inl (some (.int 0))) σ) ∧ (¬ 127 < a0 → Q (.inl (some (.int 1))) σ))))
set_option maxRecDepth 20000 in
theorem s_Sorts_isVector {γ : xG1} {d : Nat} {Q : xO → xS → Prop} {σ : xS} {a0 : Int32} (h : wp_Sorts_isVector Q σ a0) : xM (SHP, γ) Y_Sorts_isVector (d + 0) [.int a0] σ Q := by
  refine xM.of (by decide) (Nat.le_of_ble_eq_true rfl) ?_
  refine xJ.iload_n (o_Sorts_isVector 0 rfl) rfl ?_
  refine xJ.if_le (tgt := 14) (o_Sorts_isVector 1 rfl) (by decide) (fun z => ?_) (fun z => ?_)
  · replace h := h.1 z
    refine xJ.iconst (v := 0) (o_Sorts_isVector 7 rfl) (by decide) ?_
    exact xJ.zreturn (o_Sorts_isVector 8 rfl) rfl (Or.inl rfl) h
  · replace h := h.2 z
    refine xJ.iload_n (o_Sorts_isVector 2 rfl) rfl ?_
    refine xJ.bipush (v := 127) (o_Sorts_isVector 3 rfl) (by decide) ?_
    refine xJ.icmp_gt (tgt := 14) (o_Sorts_isVector 4 rfl) (by decide) (fun z => ?_) (fun z => ?_)
    · replace h := h.1 z
      refine xJ.iconst (v := 0) (o_Sorts_isVector 7 rfl) (by decide) ?_
      exact xJ.zreturn (o_Sorts_isVector 8 rfl) rfl (Or.inl rfl) h
    · replace h := h.2 z
      refine xJ.iconst (v := 1) (o_Sorts_isVector 5 rfl) (by decide) ?_
      refine xJ.goto (tgt := 15) (o_Sorts_isVector 6 rfl) (by decide) ?_
      exact xJ.zreturn (o_Sorts_isVector 8 rfl) rfl (Or.inr rfl) h
def wp_Sorts_width (Q : xO → xS → Prop) (σ : xS) (a0 : Int32) : Prop :=
  Q (.inl (some (.int (a0 &&& 127)))) σ
set_option maxRecDepth 20000 in
theorem s_Sorts_width {γ : xG1} {d : Nat} {Q : xO → xS → Prop} {σ : xS} {a0 : Int32} (h : wp_Sorts_width Q σ a0) : xM (SHP, γ) Y_Sorts_width (d + 0) [.int a0] σ Q := by
  refine xM.of (by decide) (Nat.le_of_ble_eq_true rfl) ?_
  refine xJ.iload_n (o_Sorts_width 0 rfl) rfl ?_
  refine xJ.bipush (v := 127) (o_Sorts_width 1 rfl) (by decide) ?_
  refine xJ.iand (o_Sorts_width 2 rfl) ?_
  exact xJ.ireturn (o_Sorts_width 3 rfl) rfl h
def wp_Sorts_indexWidth (Q : xO → xS → Prop) (σ : xS) (a0 : Int32) : Prop :=
  Q (.inl (some (.int (jishr a0 7)))) σ
set_option maxRecDepth 20000 in
theorem s_Sorts_indexWidth {γ : xG1} {d : Nat} {Q : xO → xS → Prop} {σ : xS} {a0 : Int32} (h : wp_Sorts_indexWidth Q σ a0) : xM (SHP, γ) Y_Sorts_indexWidth (d + 0) [.int a0] σ Q := by
  refine xM.of (by decide) (Nat.le_of_ble_eq_true rfl) ?_
  refine xJ.iload_n (o_Sorts_indexWidth 0 rfl) rfl ?_
  refine xJ.bipush (v := 7) (o_Sorts_indexWidth 1 rfl) (by decide) ?_
  refine xJ.ishr (o_Sorts_indexWidth 2 rfl) ?_
  exact xJ.ireturn (o_Sorts_indexWidth 3 rfl) rfl h
def wp_Sorts_cells (Q : xO → xS → Prop) (σ : xS) (a0 : Int32) : Prop :=
  Q (.inl (some (.int (jishl 1 (jishr a0 7))))) σ
set_option maxRecDepth 20000 in
theorem s_Sorts_cells {γ : xG1} {d : Nat} {Q : xO → xS → Prop} {σ : xS} {a0 : Int32} (h : wp_Sorts_cells Q σ a0) : xM (SHP, γ) Y_Sorts_cells (d + 0) [.int a0] σ Q := by
  refine xM.of (by decide) (Nat.le_of_ble_eq_true rfl) ?_
  refine xJ.iconst (v := 1) (o_Sorts_cells 0 rfl) (by decide) ?_
  refine xJ.iload_n (o_Sorts_cells 1 rfl) rfl ?_
  refine xJ.bipush (v := 7) (o_Sorts_cells 2 rfl) (by decide) ?_
  refine xJ.ishr (o_Sorts_cells 3 rfl) ?_
  refine xJ.ishl (o_Sorts_cells 4 rfl) ?_
  exact xJ.ireturn (o_Sorts_cells 5 rfl) rfl h
def wp_Sorts_size (Q : xO → xS → Prop) (σ : xS) (a0 : Int32) : Prop :=
  ((¬ a0 = 0 → Q (.inl (some (.int (jishl (a0 &&& 127) (jishr a0 7))))) σ) ∧ (a0 = 0 → Q (.inl (some (.int 1))) σ))
set_option maxRecDepth 20000 in
theorem s_Sorts_size {γ : xG1} {d : Nat} {Q : xO → xS → Prop} {σ : xS} {a0 : Int32} (h : wp_Sorts_size Q σ a0) : xM (SHP, γ) Y_Sorts_size (d + 0) [.int a0] σ Q := by
  refine xM.of (by decide) (Nat.le_of_ble_eq_true rfl) ?_
  refine xJ.iload_n (o_Sorts_size 0 rfl) rfl ?_
  refine xJ.if_ne (tgt := 8) (o_Sorts_size 1 rfl) (by decide) (fun z => ?_) (fun z => ?_)
  · replace h := h.1 z
    refine xJ.iload_n (o_Sorts_size 4 rfl) rfl ?_
    refine xJ.bipush (v := 127) (o_Sorts_size 5 rfl) (by decide) ?_
    refine xJ.iand (o_Sorts_size 6 rfl) ?_
    refine xJ.iload_n (o_Sorts_size 7 rfl) rfl ?_
    refine xJ.bipush (v := 7) (o_Sorts_size 8 rfl) (by decide) ?_
    refine xJ.ishr (o_Sorts_size 9 rfl) ?_
    refine xJ.ishl (o_Sorts_size 10 rfl) ?_
    exact xJ.ireturn (o_Sorts_size 11 rfl) rfl h
  · replace h := h.2 z
    refine xJ.iconst (v := 1) (o_Sorts_size 2 rfl) (by decide) ?_
    refine xJ.goto (tgt := 17) (o_Sorts_size 3 rfl) (by decide) ?_
    exact xJ.ireturn (o_Sorts_size 11 rfl) rfl h
def wp_Sorts_cellShift (Q : xO → xS → Prop) (σ : xS) (a0 : Int32) (a1 : Int64) : Prop :=
  Q (.inl (some (.int ((((jishl 1 (jishr a0 7)) - 1) - a1.toInt32) * (a0 &&& 127))))) σ
set_option maxRecDepth 20000 in
theorem s_Sorts_cellShift {γ : xG1} {d : Nat} {Q : xO → xS → Prop} {σ : xS} {a0 : Int32} {a1 : Int64} (h : wp_Sorts_cellShift Q σ a0 a1) : xM (SHP, γ) Y_Sorts_cellShift (d + 0) [.int a0, .long a1] σ Q := by
  refine xM.of (by decide) (Nat.le_of_ble_eq_true rfl) ?_
  refine xJ.iconst (v := 1) (o_Sorts_cellShift 0 rfl) (by decide) ?_
  refine xJ.iload_n (o_Sorts_cellShift 1 rfl) rfl ?_
  refine xJ.bipush (v := 7) (o_Sorts_cellShift 2 rfl) (by decide) ?_
  refine xJ.ishr (o_Sorts_cellShift 3 rfl) ?_
  refine xJ.ishl (o_Sorts_cellShift 4 rfl) ?_
  refine xJ.iconst (v := 1) (o_Sorts_cellShift 5 rfl) (by decide) ?_
  refine xJ.isub (o_Sorts_cellShift 6 rfl) ?_
  refine xJ.lload_n (o_Sorts_cellShift 7 rfl) rfl ?_
  refine xJ.l2i (o_Sorts_cellShift 8 rfl) rfl ?_
  refine xJ.isub (o_Sorts_cellShift 9 rfl) ?_
  refine xJ.iload_n (o_Sorts_cellShift 10 rfl) rfl ?_
  refine xJ.bipush (v := 127) (o_Sorts_cellShift 11 rfl) (by decide) ?_
  refine xJ.iand (o_Sorts_cellShift 12 rfl) ?_
  refine xJ.imul (o_Sorts_cellShift 13 rfl) ?_
  exact xJ.ireturn (o_Sorts_cellShift 14 rfl) rfl h
def w_Sorts_cell_15 (Q : xO → xS → Prop) (a0 : Int32) (a1 : Int64) (a3 : Int64) (t0 : Int64) (σ : xS) : Prop :=
  wp_Sorts_cellShift (xqi (fun r4 u3 => Q (.inl (some (.long ((jlushr a1 r4) &&& t0)))) u3) (fun n u => Q (.inr n) u)) σ a0 a3
def wp_Sorts_cell (Q : xO → xS → Prop) (σ : xS) (a0 : Int32) (a1 : Int64) (a3 : Int64) : Prop :=
  ((¬ a0 = 0 → wp_Words_mask (xql (fun r2 u1 => w_Sorts_cell_15 Q a0 a1 a3 r2 u1) (fun n u => Q (.inr n) u)) σ (a0 &&& 127)) ∧ (a0 = 0 → w_Sorts_cell_15 Q a0 a1 a3 1 σ))
set_option maxRecDepth 20000 in
theorem sw_Sorts_cell_15 {γ : xG1} {d b0 : Nat} {Q : xO → xS → Prop} {a0 : Int32} {a1 : Int64} {a3 : Int64} {t0 : Int64} {σ : xS} (h : w_Sorts_cell_15 Q a0 a1 a3 t0 σ) : xJ (SHP, γ) Y_Sorts_cell (d + 1) b0 15 [(0, .int a0), (1, .long a1), (3, .long a3)] [.long t0] σ Q := by
  refine xJ.lstore (o_Sorts_cell 8 rfl) (by decide) ?_
  refine xJ.lload_n (o_Sorts_cell 9 rfl) rfl ?_
  refine xJ.iload_n (o_Sorts_cell 10 rfl) rfl ?_
  refine xJ.lload_n (o_Sorts_cell 11 rfl) rfl ?_
  refine xJ.callS (Y' := Y_Sorts_cellShift) (o_Sorts_cell 12 rfl) m_Sorts_15 y_Sorts_cellShift st_Sorts_cellShift (s_Sorts_cellShift h) rfl rfl (Nat.le_of_ble_eq_true rfl) (fun _ hx => by cases hx) (fun v u q => ?_) (fun n u q => q)
  obtain ⟨r, rfl, h⟩ := xqi_get q
  refine xJ.lushr (o_Sorts_cell 13 rfl) rfl ?_
  refine xJ.lload (o_Sorts_cell 14 rfl) rfl ?_
  refine xJ.land (o_Sorts_cell 15 rfl) ?_
  exact xJ.lreturn (o_Sorts_cell 16 rfl) rfl h
set_option maxRecDepth 20000 in
theorem s_Sorts_cell {γ : xG1} {d : Nat} {Q : xO → xS → Prop} {σ : xS} {a0 : Int32} {a1 : Int64} {a3 : Int64} (h : wp_Sorts_cell Q σ a0 a1 a3) : xM (SHP, γ) Y_Sorts_cell (d + 1) [.int a0, .long a1, .long a3] σ Q := by
  refine xM.of (by decide) (Nat.le_of_ble_eq_true rfl) ?_
  refine xJ.iload_n (o_Sorts_cell 0 rfl) rfl ?_
  refine xJ.if_ne (tgt := 8) (o_Sorts_cell 1 rfl) (by decide) (fun z => ?_) (fun z => ?_)
  · replace h := h.1 z
    refine xJ.iload_n (o_Sorts_cell 4 rfl) rfl ?_
    refine xJ.bipush (v := 127) (o_Sorts_cell 5 rfl) (by decide) ?_
    refine xJ.iand (o_Sorts_cell 6 rfl) ?_
    refine xJ.callS (Y' := Y_Words_mask) (o_Sorts_cell 7 rfl) m_Sorts_9 y_Words_mask st_Words_mask (s_Words_mask h) rfl rfl (Nat.le_of_ble_eq_true rfl) (fun _ hx => by cases hx) (fun v u q => ?_) (fun n u q => q)
    obtain ⟨r, rfl, h⟩ := xql_get q
    exact xJ.lvs (by exact ⟨rfl, rfl, rfl, trivial⟩) (sw_Sorts_cell_15 h)
  · replace h := h.2 z
    refine xJ.lconst (v := 1) (o_Sorts_cell 2 rfl) (by decide) ?_
    refine xJ.goto (tgt := 15) (o_Sorts_cell 3 rfl) (by decide) ?_
    exact xJ.lvs (by exact ⟨rfl, rfl, rfl, trivial⟩) (sw_Sorts_cell_15 h)
