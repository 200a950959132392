/-- nothing of the reference's, and nothing of the text, has changed -/
def cOnly (σ σ' : xS) : Prop := (∀ a b, 50 ≤ a → xi σ' a b = xi σ a b) ∧ (∀ a b, 50 ≤ a → xl σ' a b = xl σ a b) ∧ (∀ a b, 1 ≤ a → a ≤ 4 → xi σ' a b = xi σ a b) ∧ xb σ' = xb σ
theorem oN.toCO {I L : List Nat} {σ σ' : xS} (h : oN I L σ σ') (hI : ∀ a ∈ I, a < 50 ∧ (a = 0 ∨ 5 ≤ a)) (hL : ∀ a ∈ L, a < 50) : cOnly σ σ' := ⟨fun a b q => h.1 a b (fun z => by have := hI a z; omega), fun a b q => h.2.1 a b (fun z => by have := hL a z; omega), fun a b q1 q2 => h.1 a b (fun z => by have := hI a z; omega), h.2.2⟩
/-- a search may be asked for -/
def can (B : Bk) (eff : Nat) : Prop := bsz B ≤ 16 ∧ bma B * 2 ^ bsz B ≤ eff
/-- what was found, grown -/
def grw (B : Bk) (fs x : Nat) : Nat := x * 2 ^ (bsz B - fs)
/-- where more begins -/
def mst0 (B : Bk) (f : Option Nat) (fs : Nat) : Nat := match f with
  | none => 0
  | some x => grw B fs x + 1
section CCALL
variable {B : Bk} {σ σ' : xS} {Q : xO → xS → Prop} {t J a eff fs ft : Nat} {f sup : Option Nat}
theorem WW.fit (W : WW B eff f fs ft) {x : Nat} (hx : f = some x) : fs ≤ bsz B ∧ (bsz B ≤ 16 → grw B fs x < 2 ^ bsz B) := by
  obtain ⟨w, l, n, e, g⟩ := W
  obtain ⟨g1, g2, g3, g4⟩ := g x hx
  have b := be_sz w g3
  refine ⟨by omega, fun hS => ?_⟩
  unfold grw
  have : 2 ^ fs * 2 ^ (bsz B - fs) = 2 ^ bsz B := by rw [← Nat.pow_add, show fs + (bsz B - fs) = bsz B by omega]
  rw [← this]
  exact (Nat.mul_lt_mul_right (Nat.two_pow_pos _)).mpr g1
theorem v_ask (C : CC B σ eff f fs ft) (W : WW B eff f fs ft) (hx : 1 ≤ xb σ) (k1 : can B eff → Q (.inl none) σ) (k2 : ¬ can B eff → Q (.inr 0) (xpb σ (xb σ - 1))) : wp_VectorSolver_askForSearch Q σ := by
  have w := W.1
  have hb := bsz_le w
  have he := W.2.2.2.1
  have r := C.1.1
  unfold wp_VectorSolver_askForSearch
  refine v_size r w ?_
  rw [xqi_i]
  simp (disch := omega) only [i32_lit, l64_lit, lc_eq, lc_ge, lc_le, lc_gt, lc_lt, jL_inj, jL_add, jL_sub, jL_mul, jL_neg, jL_and, jL_or, jL_xor, jL_mone, BitVec.xor_allOnes, nI_clamp, nI_ltI, nI_leI, nI_eq, nI_1, nI_add, nI_sub, nI_addm, nI_mul, vp_in_n, xi_pi, xi_pl, xl_pi, xl_pl, xb_pi, xb_pl, xqi_i, xql_l, xqv_v, xqi_e, xql_e, xqv_e, forall_eq, true_and, and_true]
  refine ⟨fun z => ⟨hx, k2 (fun q => absurd q.1 (by omega))⟩, fun z => ?_⟩
  have el := eff_le w (show bsz B ≤ 16 by omega)
  refine v_effort r w (by omega) ?_
  rw [xqi_i]
  simp (disch := omega) only [i32_lit, l64_lit, lc_eq, lc_ge, lc_le, lc_gt, lc_lt, jL_inj, jL_add, jL_sub, jL_mul, jL_neg, jL_and, jL_or, jL_xor, jL_mone, BitVec.xor_allOnes, nI_clamp, nI_ltI, nI_leI, nI_eq, nI_1, nI_add, nI_sub, nI_addm, nI_mul, vp_in_n, xi_pi, xi_pl, xl_pi, xl_pl, xb_pi, xb_pl, xqi_i, xql_l, xqv_v, xqi_e, xql_e, xqv_e, forall_eq, true_and, and_true, C.2.1]
  exact ⟨fun q => k1 ⟨by omega, q⟩, fun q => ⟨hx, k2 (fun n => q n.2)⟩⟩
theorem v_check (C : CC B σ eff f fs ft) (W : WW B eff f fs ft) (hx : 1 ≤ xb σ)
    (k1 : can B eff → ∀ σ' r, cOnly σ σ' → CC B σ' (eff - bma B * 2 ^ bsz B) r (bsz B) (bth B) → leastOK B none 0 r → Q (.inl (some (.int (bI r.isSome)))) σ') (k2 : ¬ can B eff → Q (.inr 0) (xpb σ (xb σ - 1))) : wp_VectorSolver_check Q σ := by
  have bt : ∀ r : Bool, (bI r = nI 0 ∨ bI r = nI 1) := fun r => by cases r <;> decide
  unfold wp_VectorSolver_check
  refine v_ask C W hx (fun c => ?_) (fun c => ?_)
  · rw [xqv_v]
    refine v_searchFrom (sup := none) (a := 0) C W.1 W.2.1 c.1 (Nat.zero_le _) (fun t q => by cases q) c.2 (fun σ' r o C' L => ?_)
    rw [xqi_i]
    exact ⟨bt _, k1 c σ' r (o.toCO (by decide) (by decide)) C' L⟩
  · rw [xqv_e]
    exact k2 c
theorem v_grown (C : CC B σ eff f fs ft) (W : WW B eff f fs ft) (hS : bsz B ≤ 16) {x : Nat} (hf : f = some x) (k : Q (.inl (some (.int (nI (grw B fs x))))) σ) : wp_VectorSolver_grownFound Q σ := by
  have ft := W.fit hf
  unfold wp_VectorSolver_grownFound
  refine v_size C.1.1 W.1 ?_
  rw [xqi_i, C.2.2.2.1, hf, (C.2.2.2.2 x hf).1, nI_sub ft.1]
  show Q (.inl (some (.int (jishl (nI x) (nI (bsz B - fs)))))) σ
  rw [nI_shl _ (by omega)]
  exact k
theorem v_more (C : CC B σ eff f fs ft) (W : WW B eff f fs ft) (hx : 1 ≤ xb σ)
    (k1 : can B eff → ∀ σ' r, cOnly σ σ' → CC B σ' (eff - bma B * 2 ^ bsz B) r (bsz B) (bth B) → leastOK B none (mst0 B f fs) r → Q (.inl (some (.int (bI r.isSome)))) σ') (k2 : ¬ can B eff → Q (.inr 0) (xpb σ (xb σ - 1))) : wp_VectorSolver_more Q σ := by
  have bt : ∀ r : Bool, (bI r = nI 0 ∨ bI r = nI 1) := fun r => by cases r <;> decide
  have go : can B eff → ∀ a, a = mst0 B f fs → a ≤ 2 ^ bsz B → w_VectorSolver_more_23 Q (nI a) σ := by
    intro c a ea la
    unfold w_VectorSolver_more_23
    refine v_searchFrom (sup := none) C W.1 W.2.1 c.1 la (fun t q => by cases q) c.2 (fun σ' r o C' L => ?_)
    rw [xqi_i]
    exact ⟨bt _, k1 c σ' r (o.toCO (by decide) (by decide)) C' (by rw [← ea]; exact L)⟩
  unfold wp_VectorSolver_more
  refine v_ask C W hx (fun c => ?_) (fun c => ?_)
  · rw [xqv_v, C.2.2.2.1]
    have p16 : 2 ^ bsz B ≤ 65536 := Nat.pow_le_pow_right (n := 2) (by decide) c.1
    cases hf : f with
    | none => exact ⟨fun n => absurd rfl n, fun _ => go c 0 (by rw [hf]; rfl) (Nat.zero_le _)⟩
    | some x =>
      have gl := (W.fit hf).2 c.1
      have wx := W.2.2.2.2 x hf
      have : 2 ^ fs ≤ 2 ^ 16 := Nat.pow_le_pow_right (by decide) wx.2.1
      have nm : (nI x = -1) = False := nI_ne_m1 (by omega)
      refine ⟨fun _ => ?_, fun n => ?_⟩
      · refine v_grown C W c.1 hf ?_
        rw [xqi_i, nI_1]
        exact go c _ (by rw [hf]; rfl) (by omega)
      · have n : nI x = -1 := n
        rw [nm] at n
        exact n.elim
  · rw [xqv_e]
    exact k2 c
/-- a name that is there -/
def isNm (B : Bk) (x : Int32) (n : Nat) : Prop := x = nI n ∧ n < bna B
theorem nm_or (B : Bk) (hn : bna B ≤ 500) (x : Int32) : (∃ n, isNm B x n) ∨ (x < 0 ∨ ¬ x < nI (bna B)) := by
  by_cases h0 : x < 0
  · exact Or.inr (Or.inl h0)
  · obtain ⟨j, hj, e⟩ := nI_of h0
    by_cases c : j < bna B
    · exact Or.inl ⟨j, e, c⟩
    · right; right
      rw [e, nI_ltI hj (by omega)]
      exact c
theorem v_term (C : CC B σ eff f fs ft) (W : WW B eff f fs ft) (hx : 1 ≤ xb σ) {x : Int32} (k1 : ∀ n, isNm B x n → Q (.inl (some (.int (nI (B.1 18 n))))) σ) (k2 : (∀ n, ¬ isNm B x n) → Q (.inr 1) (xpb σ (xb σ - 1))) : wp_VectorSolver_termOfName Q σ x := by
  have hn : bna B ≤ 500 := W.1.1.2.2.2.2.2.1
  have r := C.1.1
  unfold wp_VectorSolver_termOfName
  rw [r.1.2.2.1]
  have no : (x < 0 ∨ ¬ x < nI (bna B)) → ∀ n, ¬ isNm B x n := fun q n ⟨e, l⟩ => by
    rcases q with q | q
    · rw [e, show (0 : Int32) = nI 0 from rfl, nI_ltI (by omega) (by decide)] at q; omega
    · rw [e, nI_ltI (by omega) (by omega)] at q; omega
  refine ⟨fun z => ⟨hx, k2 (no (Or.inl z))⟩, fun z => ⟨fun z2 => ?_, fun z2 => ⟨hx, k2 (no (Or.inr z2))⟩⟩⟩
  rcases nm_or B hn x with ⟨n, e, l⟩ | q
  · have e18 : xi σ 18 n = nI (B.1 18 n) := r.2.1 18 n l
    rw [e]
    simp (disch := omega) only [i32_lit, l64_lit, lc_eq, lc_ge, lc_le, lc_gt, lc_lt, jL_inj, jL_add, jL_sub, jL_mul, jL_neg, jL_and, jL_or, jL_xor, jL_mone, BitVec.xor_allOnes, nI_clamp, nI_ltI, nI_leI, nI_eq, nI_1, nI_add, nI_sub, nI_addm, nI_mul, vp_in_n, xi_pi, xi_pl, xl_pi, xl_pl, xb_pi, xb_pl, xqi_i, xql_l, xqv_v, xqi_e, xql_e, xqv_e, forall_eq, true_and, and_true, e18]
    exact k1 n ⟨e, l⟩
  · exact absurd z2 (q.elim (fun c => absurd c z) id)
theorem v_suppose (C : CC B σ eff f fs ft) (W : WW B eff f fs ft) (hx : 1 ≤ xb σ) {x : Int32}
    (k1 : ∀ n, isNm B x n → bso B (B.1 18 n) = 0 → can B eff → ∀ σ' r, cOnly σ σ' → CC B σ' (eff - bma B * 2 ^ bsz B) r (bsz B) (bth B) → leastOK B (some (B.1 18 n)) 0 r → Q (.inl (some (.int (bI r.isSome)))) σ')
    (k2 : ∀ n, isNm B x n → bso B (B.1 18 n) = 0 → ¬ can B eff → Q (.inr 0) (xpb σ (xb σ - 1))) (k3 : (∀ n, isNm B x n → bso B (B.1 18 n) ≠ 0) → Q (.inr 1) (xpb σ (xb σ - 1))) : wp_VectorSolver_suppose Q σ x := by
  have bt : ∀ r : Bool, (bI r = nI 0 ∨ bI r = nI 1) := fun r => by cases r <;> decide
  have hm := wf_ma W.1
  unfold wp_VectorSolver_suppose
  refine v_term C W hx (fun n hn => ?_) (fun no => ?_)
  · have nt := W.2.2.1.1 n hn.2
    have uniq : ∀ m, isNm B x m → m = n := fun m hm2 => by
      have e := hm2.1.symm.trans hn.1
      have h5 : bna B ≤ 500 := W.1.1.2.2.2.2.2.1
      have := hn.2
      have := hm2.2
      exact (nI_eq (by omega) (by omega)).mp e
    have okl := (wf_so W.1 nt).lt
    rw [xqi_i]
    simp (disch := omega) only [i32_lit, l64_lit, lc_eq, lc_ge, lc_le, lc_gt, lc_lt, jL_inj, jL_add, jL_sub, jL_mul, jL_neg, jL_and, jL_or, jL_xor, jL_mone, BitVec.xor_allOnes, nI_clamp, nI_ltI, nI_leI, nI_eq, nI_1, nI_add, nI_sub, nI_addm, nI_mul, vp_in_n, xi_pi, xi_pl, xl_pi, xl_pl, xb_pi, xb_pl, xqi_i, xql_l, xqv_v, xqi_e, xql_e, xqv_e, forall_eq, true_and, and_true, rc_so C.1.1]
    refine ⟨fun e => ?_, fun e => ⟨hx, k3 (fun m hm2 => by rw [uniq m hm2]; exact e)⟩⟩
    refine v_ask C W hx (fun c => ?_) (fun c => ?_)
    · rw [xqv_v]
      refine v_searchFrom (sup := some (B.1 18 n)) (a := 0) C W.1 W.2.1 c.1 (Nat.zero_le _) (fun t q => by cases q; exact ⟨nt, e⟩) c.2 (fun σ' r o C' L => ?_)
      rw [xqi_i]
      exact ⟨bt _, k1 n hn e c σ' r (o.toCO (by decide) (by decide)) C' L⟩
    · rw [xqv_e]
      exact k2 n hn e c
  · rw [xqi_e]
    exact k3 (fun n hn => absurd hn (no n))
theorem v_missed (C : CC B σ eff f fs ft) (k : Q (.inl (some (.int (nI 0)))) σ) : wp_VectorSolver_missed Q σ := by
  unfold wp_VectorSolver_missed
  rw [C.2.2.2.1]
  cases hf : f with
  | none => exact ⟨fun n => absurd rfl n, fun _ => k⟩
  | some x => exact ⟨fun _ => by rw [(C.2.2.2.2 x hf).2.2]; exact k, fun _ => k⟩
theorem v_refused (C : CC B σ eff f fs ft) (k : Q (.inl (some (.int (nI 0)))) σ) : wp_VectorSolver_refused Q σ := by
  unfold wp_VectorSolver_refused
  rw [C.2.2.1]
  exact k
end CCALL
