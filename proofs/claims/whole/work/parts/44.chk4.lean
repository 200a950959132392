section CHK4
variable {Q : xO → xS → Prop} {σ : xS} {B : Bk} {kn on : Nat → BitVec 64} {t : Nat}
def ltB (a b : BitVec 64) : Bool := decide (a.toNat < b.toNat)
theorem p_lessB {a b : BitVec 64} (k : Q (.inl (some (.int (bI (ltB a b))))) σ) : wp_Words_less Q σ (jL a) (jL b) := by
  refine p_less ?_
  unfold bI ltB at k
  by_cases e : a.toNat < b.toNat
  · rw [if_pos e]; rw [decide_eq_true e] at k; exact k
  · rw [if_neg e]; rw [decide_eq_false e] at k; exact k
/-- what a comparison learns: sure, sure not -/
def cmK (op : Nat) (la ma lb mb : BitVec 64) : Bool × Bool :=
  if op = 36 ∨ op = 40 then (ltB ma lb, !ltB la mb) else if op = 37 ∨ op = 41 then (!ltB lb ma, ltB mb la) else if op = 38 ∨ op = 42 then (ltB mb la, !ltB lb ma) else (!ltB la mb, ltB ma lb)
theorem c_comparison {a b : Nat} (h : RC B σ) (w : wfB B) (ht : t < bma B) (ha : a < bma B) (hb : b < bma B) (hs : 1 ≤ bso B a) (hs2 : bso B a ≤ 64) (ho : bop B t < 64) (ka : xl σ 45 a = jL (kn a)) (kb : xl σ 45 b = jL (kn b)) (oa : xl σ 46 a = jL (on a)) (ob : xl σ 46 b = jL (on b))
    (q : ∀ r T, T = turn (bop B t) (bso B a) → r = cmK (bop B t) (lst (kn a) (on a) T) (mst (kn a) (on a) T (bful B a)) (lst (kn b) (on b) T) (mst (kn b) (on b) T (bful B b)) → ∀ σ', lrnd σ t (if r.1 || r.2 then 1#64 else 0#64) (if r.1 then 1#64 else 0#64) σ' → Q (.inl none) σ') : wp_Checker_workOutComparison Q σ (nI t) (nI a) (nI b) := by
  have hm := wf_ma w
  unfold wp_Checker_workOutComparison
  simp (disch := omega) only [i32_lit, l64_lit, lc_eq, lc_ge, lc_le, lc_gt, lc_lt, jL_inj, jL_add, jL_sub, jL_mul, jL_neg, jL_and, jL_or, jL_xor, jL_mone, BitVec.xor_allOnes, nI_clamp, nI_ltI, nI_leI, nI_eq, nI_1, nI_add, nI_sub, nI_addm, nI_mul, vp_in_n, xi_pi, xi_pl, xl_pi, xl_pl, xb_pi, xb_pl, xqi_i, xql_l, xqv_v, xqi_e, xql_e, xqv_e, forall_eq, true_and, and_true, rc_so h, rc_op h]
  refine p_turned ho hs hs2 ?_
  rw [show (if bop B t < 40 then 0#64 else 1#64 <<< (bso B a - 1)) = turn (bop B t) (bso B a) from rfl]
  generalize hT : turn (bop B t) (bso B a) = T at q
  simp (disch := omega) only [i32_lit, l64_lit, lc_eq, lc_ge, lc_le, lc_gt, lc_lt, jL_inj, jL_add, jL_sub, jL_mul, jL_neg, jL_and, jL_or, jL_xor, jL_mone, BitVec.xor_allOnes, nI_clamp, nI_ltI, nI_leI, nI_eq, nI_1, nI_add, nI_sub, nI_addm, nI_mul, vp_in_n, xi_pi, xi_pl, xl_pi, xl_pl, xb_pi, xb_pl, xqi_i, xql_l, xqv_v, xqi_e, xql_e, xqv_e, forall_eq, true_and, and_true, rc_fu h, ka, kb, oa, ob]
  rw [show on a ^^^ T &&& kn a = lst (kn a) (on a) T from rfl, show on b ^^^ T &&& kn b = lst (kn b) (on b) T from rfl, show lst (kn a) (on a) T ||| bful B a &&& ~~~ kn a = mst (kn a) (on a) T (bful B a) from rfl, show lst (kn b) (on b) T ||| bful B b &&& ~~~ kn b = mst (kn b) (on b) T (bful B b) from rfl]
  generalize hla : lst (kn a) (on a) T = la at q
  generalize hlb : lst (kn b) (on b) T = lb at q
  generalize hma : mst (kn a) (on a) T (bful B a) = ma at q
  generalize hmb : mst (kn b) (on b) T (bful B b) = mb at q
  refine p_lessB ?_
  simp (disch := omega) only [i32_lit, l64_lit, lc_eq, lc_ge, lc_le, lc_gt, lc_lt, jL_inj, jL_add, jL_sub, jL_mul, jL_neg, jL_and, jL_or, jL_xor, jL_mone, BitVec.xor_allOnes, nI_clamp, nI_ltI, nI_leI, nI_eq, nI_1, nI_add, nI_sub, nI_addm, nI_mul, vp_in_n, xi_pi, xi_pl, xl_pi, xl_pl, xb_pi, xb_pl, xqi_i, xql_l, xqv_v, xqi_e, xql_e, xqv_e, forall_eq, true_and, and_true]
  refine p_lessB ?_
  have fin : ∀ x y z u : Bool, x = ltB ma lb → y = !ltB la mb → z = ltB mb la → u = !ltB lb ma → w_Checker_workOutComparison_163 Q (nI t) (nI (bop B t)) (bI x) (bI y) (bI z) (bI u) σ := by
    intro x y z u ex ey ez eu
    unfold w_Checker_workOutComparison_163
    simp (disch := omega) only [i32_lit, l64_lit, lc_eq, lc_ge, lc_le, lc_gt, lc_lt, jL_inj, jL_add, jL_sub, jL_mul, jL_neg, jL_and, jL_or, jL_xor, jL_mone, BitVec.xor_allOnes, nI_clamp, nI_ltI, nI_leI, nI_eq, nI_1, nI_add, nI_sub, nI_addm, nI_mul, vp_in_n, xi_pi, xi_pl, xl_pi, xl_pl, xb_pi, xb_pl, xqi_i, xql_l, xqv_v, xqi_e, xql_e, xqv_e, forall_eq, true_and, and_true]
    refine ⟨fun c => c_either (by omega) (q (x, y) T rfl ?_), fun c => c_either (by omega) (q (u, z) T rfl ?_), fun c => c_either (by omega) (q (z, u) T rfl ?_), fun c => c_either (by omega) (q (y, x) T rfl ?_)⟩
    · rw [cmK, if_pos c, ex, ey, hma, hlb, hla, hmb]
    · rw [cmK, if_neg (by omega), if_pos c, eu, ez, hma, hlb, hla, hmb]
    · rw [cmK, if_neg (by omega), if_neg (by omega), if_pos c, ez, eu, hma, hlb, hla, hmb]
    · rw [cmK, if_neg (by omega), if_neg (by omega), if_neg (by omega), ey, ex, hma, hlb, hla, hmb]
  have nxt : ∀ y : Bool, y = !ltB la mb → w_Checker_workOutComparison_137 Q (nI t) (nI (bop B t)) (jL la) (jL ma) (jL lb) (jL mb) (bI (ltB ma lb)) (bI y) σ := by
    intro y ey
    unfold w_Checker_workOutComparison_137
    refine p_lessB ?_
    simp (disch := omega) only [i32_lit, l64_lit, lc_eq, lc_ge, lc_le, lc_gt, lc_lt, jL_inj, jL_add, jL_sub, jL_mul, jL_neg, jL_and, jL_or, jL_xor, jL_mone, BitVec.xor_allOnes, nI_clamp, nI_ltI, nI_leI, nI_eq, nI_1, nI_add, nI_sub, nI_addm, nI_mul, vp_in_n, xi_pi, xi_pl, xl_pi, xl_pl, xb_pi, xb_pl, xqi_i, xql_l, xqv_v, xqi_e, xql_e, xqv_e, forall_eq, true_and, and_true]
    refine p_lessB ?_
    simp (disch := omega) only [i32_lit, l64_lit, lc_eq, lc_ge, lc_le, lc_gt, lc_lt, jL_inj, jL_add, jL_sub, jL_mul, jL_neg, jL_and, jL_or, jL_xor, jL_mone, BitVec.xor_allOnes, nI_clamp, nI_ltI, nI_leI, nI_eq, nI_1, nI_add, nI_sub, nI_addm, nI_mul, vp_in_n, xi_pi, xi_pl, xl_pi, xl_pl, xb_pi, xb_pl, xqi_i, xql_l, xqv_v, xqi_e, xql_e, xqv_e, forall_eq, true_and, and_true, bI_0]
    refine ⟨fun c => fin _ y _ false rfl ey rfl ?_, fun c => fin _ y _ true rfl ey rfl ?_⟩
    · cases e : ltB lb ma <;> simp_all
    · rw [c]; rfl
  simp (disch := omega) only [i32_lit, l64_lit, lc_eq, lc_ge, lc_le, lc_gt, lc_lt, jL_inj, jL_add, jL_sub, jL_mul, jL_neg, jL_and, jL_or, jL_xor, jL_mone, BitVec.xor_allOnes, nI_clamp, nI_ltI, nI_leI, nI_eq, nI_1, nI_add, nI_sub, nI_addm, nI_mul, vp_in_n, xi_pi, xi_pl, xl_pi, xl_pl, xb_pi, xb_pl, xqi_i, xql_l, xqv_v, xqi_e, xql_e, xqv_e, forall_eq, true_and, and_true, bI_0]
  refine ⟨fun c => nxt false ?_, fun c => nxt true ?_⟩
  · cases e : ltB la mb <;> simp_all
  · rw [c]; rfl
end CHK4
