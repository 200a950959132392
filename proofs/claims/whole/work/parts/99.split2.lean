/-! THE PIECES: packed and split -/
def rr : Option Nat → Nat
  | none => 0
  | some n => n + 1
theorem supI_rr (r : Option Nat) : supI r + nI 1 = nI (rr r) := by
  cases r with
  | none => decide
  | some n => exact nI_add n 1
theorem rr_supI (r : Option Nat) : nI (rr r) - nI 1 = supI r := by
  cases r with
  | none => decide
  | some n =>
    show nI (n + 1) - nI 1 = nI n
    rw [nI_sub (by omega), Nat.add_sub_cancel]
def pkN (t : Tk) : Nat := t.2.1 + t.2.2.1 * 1048576 + t.1 * 1099511627776 + rr t.2.2.2 * 281474976710656
theorem bv_cat {x y : Nat} (k : Nat) (hx : x < 2 ^ k) (h : x + y * 2 ^ k < 2 ^ 64) : BitVec.ofNat 64 x ||| (BitVec.ofNat 64 y <<< k) = BitVec.ofNat 64 (x + y * 2 ^ k) := by
  have p : 1 ≤ 2 ^ k := Nat.one_le_two_pow
  have hy : y ≤ y * 2 ^ k := Nat.le_mul_of_pos_right y p
  apply BitVec.eq_of_toNat_eq
  rw [BitVec.toNat_or, BitVec.toNat_shiftLeft, BitVec.toNat_ofNat, BitVec.toNat_ofNat, BitVec.toNat_ofNat, Nat.mod_eq_of_lt (a := x) (by omega), Nat.mod_eq_of_lt (a := y) (by omega), Nat.mod_eq_of_lt (a := x + y * 2 ^ k) h, Nat.shiftLeft_eq, Nat.mod_eq_of_lt (by omega), Nat.or_comm, ← Nat.shiftLeft_eq, ← Nat.shiftLeft_add_eq_or_of_lt hx, Nat.shiftLeft_eq, Nat.add_comm]
theorem p_pack {F E K : Nat} {R : Option Nat} (hF : F < 1048576) (hE : E < 1048576) (hK : K < 256) (hR : rr R < 256) :
    (((nI F).toInt64 ||| jlshl (nI E).toInt64 20) ||| jlshl (nI K).toInt64 40) ||| jlshl (nI (rr R)).toInt64 48 = jL (BitVec.ofNat 64 (pkN (K, F, E, R))) := by
  rw [jL_i2l (by omega), jL_i2l (by omega), jL_i2l (by omega), jL_i2l (by omega), show (20 : Int32) = nI 20 from rfl, show (40 : Int32) = nI 40 from rfl, show (48 : Int32) = nI 48 from rfl, jL_shl _ (by decide), jL_shl _ (by decide), jL_shl _ (by decide), jL_or, jL_or, jL_or, bv_cat 20 (by omega) (by omega), bv_cat 40 (by omega) (by omega), bv_cat 48 (by omega) (by omega)]
  rfl
theorem nI_mod (a : Nat) : nI (a % 4294967296) = nI a := by
  apply Int32.toBitVec_inj.mp
  show BitVec.ofNat 32 (a % 4294967296) = BitVec.ofNat 32 a
  apply BitVec.eq_of_toNat_eq
  rw [BitVec.toNat_ofNat, BitVec.toNat_ofNat]
  exact Nat.mod_mod _ _
theorem nI_andw {a : Nat} (w : Nat) (hw : w < 32) : nI a &&& nI (2 ^ w - 1) = nI (a % 2 ^ w) := by
  rw [← nI_mod a, nI_andm (Nat.mod_lt _ (by decide)) hw, Nat.mod_mod_of_dvd]
  exact Nat.pow_dvd_pow 2 (show w ≤ 32 by omega)
theorem p_fld {n k w : Nat} (hn : n < 9223372036854775808) (hk : k < 64) (hw : w < 32) : (jlshr (jL (BitVec.ofNat 64 n)) (nI k)).toInt32 &&& nI (2 ^ w - 1) = nI (n / 2 ^ k % 2 ^ w) := by
  have m : (BitVec.ofNat 64 n).msb = false := by
    rw [BitVec.msb_eq_false_iff_two_mul_lt, BitVec.toNat_ofNat, Nat.mod_eq_of_lt (by omega)]
    omega
  rw [jL_sshr _ hk, BitVec.sshiftRight_eq_of_msb_false m, jL_l2i, nI_andw w hw, BitVec.toNat_ushiftRight, BitVec.toNat_ofNat, Nat.mod_eq_of_lt (show n < 2 ^ 64 by omega), Nat.shiftRight_eq_div_pow]
theorem pkN_lt {t : Tk} (h1 : t.2.1 < 1048576) (h2 : t.2.2.1 < 1048576) (h3 : t.1 < 256) (h4 : rr t.2.2.2 < 256) : pkN t < 9223372036854775808 := by
  unfold pkN
  omega
/-- what may stand in a piece -/
def tkOK (t : Tk) : Prop := t.2.1 < 1048576 ∧ t.2.2.1 < 1048576 ∧ t.1 < 256 ∧ rr t.2.2.2 < 256
theorem p_un {t : Tk} (h : tkOK t) : (jL (BitVec.ofNat 64 (pkN t))).toInt32 &&& 1048575 = nI t.2.1 ∧ (jlshr (jL (BitVec.ofNat 64 (pkN t))) 20).toInt32 &&& 1048575 = nI t.2.2.1 ∧ (jlshr (jL (BitVec.ofNat 64 (pkN t))) 40).toInt32 &&& 255 = nI t.1 ∧ ((jlshr (jL (BitVec.ofNat 64 (pkN t))) 48).toInt32 &&& 255) - 1 = supI t.2.2.2 := by
  obtain ⟨h1, h2, h3, h4⟩ := h
  have lt := pkN_lt h1 h2 h3 h4
  have d : ∀ k w, (pkN t) / 2 ^ k % 2 ^ w = (t.2.1 + t.2.2.1 * 1048576 + t.1 * 1099511627776 + rr t.2.2.2 * 281474976710656) / 2 ^ k % 2 ^ w := fun _ _ => rfl
  refine ⟨?_, ?_, ?_, ?_⟩
  · rw [jL_l2i, BitVec.toNat_ofNat, Nat.mod_eq_of_lt (by omega)]
    refine (nI_andw 20 (by decide)).trans (congrArg nI ?_)
    unfold pkN
    omega
  · refine (p_fld (k := 20) (w := 20) lt (by decide) (by decide)).trans (congrArg nI ?_)
    rw [d]
    omega
  · refine (p_fld (k := 40) (w := 8) lt (by decide) (by decide)).trans (congrArg nI ?_)
    rw [d]
    omega
  · rw [← rr_supI]
    refine congrArg (· - nI 1) ((p_fld (k := 48) (w := 8) lt (by decide) (by decide)).trans (congrArg nI ?_))
    rw [d]
    omega
theorem rsv_rr {w : List Nat} : rr (rsv w) < 256 := by
  cases h : rsv w with
  | none => decide
  | some n =>
    have := (rsv_lt h).1
    show n + 1 < 256
    omega
theorem tk2_rr {c : Nat → Nat} {l f o : Nat} : rr (tk2 c l f o).1.2.2.2 < 256 := by
  have z : rr none < 256 := by decide
  unfold tk2
  split
  · exact z
  · split
    · exact z
    · split
      · exact z
      · split
        · exact z
        · show rr (if _ then _ else none) < 256
          split
          · exact rsv_rr
          · exact z
theorem tok_ok {c : Nat → Nat} {l j : Nat} (h : l ≤ 65536) : tkOK (tok c l j) := by
  have t := tkn_le (c := c) (l := l) (o := (pos c l j).2) (pos_le (c := c) (l := l) j)
  unfold tok
  exact ⟨by omega, by omega, by omega, tk2_rr⟩
/-- the open count stays within bounds -/
theorem tk2_o {c : Nat → Nat} {l f o : Nat} : (tk2 c l f o).2.2 ≤ o + 1 ∧ o ≤ (tk2 c l f o).2.2 + 1 := by
  unfold tk2
  repeat' split
  all_goals (dsimp only; omega)
theorem pos_o {c : Nat → Nat} {l : Nat} : ∀ j, (pos c l j).2 ≤ 70000 + j ∧ 70000 ≤ (pos c l j).2 + j := by
  intro j
  induction j with
  | zero => exact ⟨Nat.le_refl _, Nat.le_refl _⟩
  | succ j ih =>
    have := tk2_o (c := c) (l := l) (f := skp c l (l - (pos c l j).1) false (pos c l j).1) (o := (pos c l j).2)
    show (tkn c l (pos c l j).1 (pos c l j).2).2.2 ≤ _ ∧ _ ≤ (tkn c l (pos c l j).1 (pos c l j).2).2.2 + _
    unfold tkn
    omega
/-- all but the length of the text's record, and the pieces -/
def oP (σ σ' : xS) : Prop := (∀ a b, ¬ (a = 1 ∧ b ≠ 1) → xi σ' a b = xi σ a b) ∧ (∀ a b, a ≠ 3 → xl σ' a b = xl σ a b) ∧ xb σ' = xb σ
theorem oP.refl (σ : xS) : oP σ σ := ⟨fun _ _ _ => rfl, fun _ _ _ => rfl, rfl⟩
theorem oP.trans {σ σ' σ2 : xS} (h : oP σ σ') (h2 : oP σ' σ2) : oP σ σ2 := ⟨fun a b q => (h2.1 a b q).trans (h.1 a b q), fun a b q => (h2.2.1 a b q).trans (h.2.1 a b q), h2.2.2.trans h.2.2⟩
theorem oJ.P {J : List Nat} {σ σ' : xS} (h : oJ J σ σ') (q : 1 ∉ J) : oP σ σ' := ⟨fun a b z => h.1 a b (fun y => z ⟨y.1, fun e => q (by rw [← e]; exact y.2)⟩), fun a b _ => h.2.1 a b, h.2.2⟩
theorem oP.pi (σ : xS) (j : Nat) (x : Int32) (h : j ≠ 1) : oP σ (xpi σ 1 j x) := ⟨fun a b q => by rw [xi_pi, if_neg (fun z => q ⟨z.1, by rw [z.2]; exact h⟩)], fun _ _ _ => rfl, rfl⟩
theorem oP.pl (σ : xS) (j : Nat) (x : Int64) : oP σ (xpl σ 3 j x) := ⟨fun _ _ _ => rfl, fun a b q => by rw [xl_pl, if_neg (fun z => q z.1)], rfl⟩
theorem TB.keepP {σ σ' : xS} {c : Nat → Nat} {l : Nat} (T : TB σ c l) (h : oP σ σ') : TB σ' c l :=
  ⟨(h.1 1 1 (fun z => z.2 rfl)).trans T.1, T.2.1, fun i hi => ⟨(T.2.2.1 i hi).1, (h.1 2 i (fun z => absurd z.1 (by decide))).trans (T.2.2.1 i hi).2⟩, fun n hn => (h.1 4 n (fun z => absurd z.1 (by decide))).trans (T.2.2.2 n hn)⟩
section SPLIT2
variable {σ σ' : xS} {Q : xO → xS → Prop} {c : Nat → Nat} {l : Nat}
theorem v_keepP {t : Tk} {j : Nat} (ht : tkOK t) (hj : j < 65537) (e9 : xi σ 1 9 = nI t.1) (e10 : xi σ 1 10 = nI t.2.1) (e11 : xi σ 1 11 = nI t.2.2.1) (e12 : xi σ 1 12 = supI t.2.2.2) (e5 : xi σ 1 5 = nI j)
    (k : Q (.inl none) (xpi (xpl σ 3 j (jL (BitVec.ofNat 64 (pkN t)))) 1 5 (nI (j + 1)))) : wp_Text_keepPiece Q σ := by
  unfold wp_Text_keepPiece
  intro x1 ex
  subst ex
  rw [e5]
  refine ⟨vp_in_nI hj (by decide), fun s2 e2 s3 e3 => ?_⟩
  rw [nI_clamp (by omega), e9, e10, e11, e12, show (1 : Int32) = nI 1 from rfl, supI_rr, p_pack ht.1 ht.2.1 ht.2.2.1 ht.2.2.2] at e2
  subst e2
  rw [xi_pl, e5, show (1 : Int32) = nI 1 from rfl, nI_add] at e3
  subst e3
  exact k
/-- the class's pieces are the tokens -/
def PC (σ : xS) (c : Nat → Nat) (l N : Nat) : Prop := (∀ j, j ≤ N → xl σ 3 j = jL (BitVec.ofNat 64 (pkN (tok c l j)))) ∧ xi σ 1 5 = nI (N + 1)
theorem v_split {N : Nat} (T : TB σ c l) (hN : N ≤ l) (h1 : ∀ j, j < N → (tok c l j).1 < 16) (h2 : 16 ≤ (tok c l N).1)
    (k : ∀ σ', oP σ σ' → PC σ' c l N → xi σ' 1 6 = nI 0 → xi σ' 1 2 = nI 0 → xi σ' 1 3 = -1 → Q (.inl none) σ') : wp_Text_split Q σ := by
  have l1 := T.2.1
  have fin : ∀ s, oP σ s → PC s c l N → w_Text_split_72 Q s := fun s o1 pc => by
    unfold w_Text_split_72
    intro s5 e5 s6 e6 s7 e7
    subst e5 e6 e7
    refine k _ (o1.trans (((oP.pi _ _ _ (by decide)).trans (oP.pi _ _ _ (by decide))).trans (oP.pi _ _ _ (by decide)))) ⟨fun j hj => ?_, ?_⟩ ?_ ?_ ?_
    · exact pc.1 j hj
    · rw [xi_pi, if_neg (by decide), xi_pi, if_neg (by decide), xi_pi, if_neg (by decide)]; exact pc.2
    · rw [xi_pi, if_neg (by decide), xi_pi, if_neg (by decide), xi_pi, if_pos ⟨rfl, rfl⟩]; rfl
    · rw [xi_pi, if_neg (by decide), xi_pi, if_pos ⟨rfl, rfl⟩]; rfl
    · rw [xi_pi, if_pos ⟨rfl, rfl⟩]
  have key : ∀ n j s, j + n = N + 1 → oP σ s → (∀ i, i < j → xl s 3 i = jL (BitVec.ofNat 64 (pkN (tok c l i)))) → xi s 1 5 = nI j → xi s 1 7 = oI (pos c l j).2 → xi s 1 11 = nI (pos c l j).1 → (j ≤ N → ∃ K, K < 16 ∧ xi s 1 9 = nI K) → (j = N + 1 → xi s 1 9 = nI (tok c l N).1) → w_Text_split_20 Q (n + 1) s := by
    intro n
    induction n with
    | zero =>
      intro j s hj o1 pc e5 e7 e11 e9 e9'
      have ej : j = N + 1 := by omega
      have T1 := T.keepP o1
      have tl := (tok_ok (c := c) (j := N) l1).2.2.1
      unfold w_Text_split_20
      have f0 := fin s o1 ⟨fun i hi => pc i (by omega), by rw [e5, ej]⟩
      rw [T1.1, e5, e9' ej]
      simp (disch := omega) only [i32_lit, l64_lit, lc_eq, lc_ge, lc_le, lc_gt, lc_lt, jL_inj, jL_add, jL_sub, jL_mul, jL_neg, jL_and, jL_or, jL_xor, jL_mone, BitVec.xor_allOnes, nI_clamp, nI_ltI, nI_leI, nI_eq, nI_1, nI_add, nI_sub, nI_addm, nI_mul, vp_in_n, xi_pi, xi_pl, xl_pi, xl_pl, xb_pi, xb_pl, xqi_i, xql_l, xqv_v, xqi_e, xql_e, xqv_e, forall_eq, true_and, and_true]
      exact ⟨fun _ => f0, fun _ => ⟨fun _ => f0, fun z => absurd h2 z⟩⟩
    | succ n ih =>
      intro j s hj o1 pc e5 e7 e11 e9 e9'
      have T1 := T.keepP o1
      have pl := pos_le (c := c) (l := l) j
      have po := pos_o (c := c) (l := l) j
      obtain ⟨K, hK, e9⟩ := e9 (by omega)
      unfold w_Text_split_20
      rw [T1.1, e5, e9]
      refine ⟨fun z => absurd ((nI_ltI (by omega) (by omega)).mp z) (by omega), fun _ => ⟨fun z => ?_, fun _ => ?_⟩⟩
      · have : 16 ≤ K := by
          rw [show (16 : Int32) = nI 16 from rfl] at z
          exact (nI_leI (by decide) (by omega)).mp z
        omega
      · refine v_skip T1 pl e11 (fun u o2 e11' => ?_)
        rw [xqv_v]
        intro s10 e10 s11 e12
        have T2 := T1.keep o2 (by decide)
        have sk := skp_le (c := c) (l - (pos c l j).1) false (pos c l j).1 pl
        obtain ⟨f, hf⟩ : ∃ f, f = skp c l (l - (pos c l j).1) false (pos c l j).1 := ⟨_, rfl⟩
        have ht : tok c l j = (tk2 c l f (pos c l j).2).1 := by rw [hf]; rfl
        have hp : pos c l (j + 1) = (tk2 c l f (pos c l j).2).2 := by rw [hf]; rfl
        rw [← hf] at e11' sk
        rw [e11'] at e10
        subst e10
        have o3 : oJ [10, 12] u s11 := by rw [e12]; exact (oJ.pi _ _ _ (by decide)).trans (oJ.pi _ _ _ (by decide))
        have T3 := T2.keep o3 (by decide)
        refine v_cut (o := (pos c l j).2) T3 sk.2 (by rw [e12, xi_pi, if_neg (by decide), xi_pi, if_pos ⟨rfl, rfl⟩]) (by rw [o3.at (by decide)]; exact e11') (by rw [e12, xi_pi, if_pos ⟨rfl, rfl⟩]) (by rw [o3.at (by decide), o2.at (by decide)]; exact e7) (by omega) (by omega) (fun u2 o4 d7 d11 d12 => ?_)
        rw [xqi_i]
        intro s14 e14
        have T4 := T3.keep o4 (by decide)
        have o5 : oJ [9] u2 s14 := by rw [e14]; exact oJ.pi _ _ _ (by decide)
        have tt := tk2_le (c := c) (o := (pos c l j).2) sk.2
        have ok := tok_ok (c := c) (l := l) (j := j) l1
        rw [ht] at ok
        refine v_keepP (j := j) ok (by omega) (by rw [e14, xi_pi, if_pos ⟨rfl, rfl⟩]) ?_ (by rw [o5.at (by decide), d11, tt.2.2.1]) (by rw [o5.at (by decide), d12]) ?_ ?_
        · rw [o5.at (by decide), o4.at (by decide), e12, xi_pi, if_neg (by decide), xi_pi, if_pos ⟨rfl, rfl⟩, tt.1]
        · rw [o5.at (by decide), o4.at (by decide), o3.at (by decide), o2.at (by decide)]; exact e5
        · rw [xqv_v]
          have oo : oP s s14 := ((o2.P (by decide)).trans (o3.P (by decide))).trans ((o4.P (by decide)).trans (o5.P (by decide)))
          have ll : ∀ a b, xl s14 a b = xl s a b := fun a b => (o5.2.1 a b).trans ((o4.2.1 a b).trans ((o3.2.1 a b).trans (o2.2.1 a b)))
          refine ih (j + 1) _ (by omega) ((o1.trans oo).trans ((oP.pl _ _ _).trans (oP.pi _ _ _ (by decide)))) (fun i hi => ?_) (by rw [xi_pi, if_pos ⟨rfl, rfl⟩]) ?_ ?_ (fun hN' => ⟨(tok c l j).1, h1 j (by omega), ?_⟩) (fun hN' => ?_)
          · rw [xl_pi, xl_pl]
            by_cases ei : i = j
            · rw [if_pos ⟨rfl, ei⟩, ei, ht]
            · rw [if_neg (fun z => ei z.2), ll]
              exact pc i (by omega)
          · rw [xi_pi, if_neg (by decide), xi_pl, o5.at (by decide), d7, hp]
          · rw [xi_pi, if_neg (by decide), xi_pl, o5.at (by decide), d11, hp]
          · rw [xi_pi, if_neg (by decide), xi_pl, e14, xi_pi, if_pos ⟨rfl, rfl⟩, ht]
          · have : N = j := by omega
            rw [xi_pi, if_neg (by decide), xi_pl, e14, xi_pi, if_pos ⟨rfl, rfl⟩, this, ht]
  unfold wp_Text_split
  intro s1 e1 s2 e2 s3 e3 s4 e4
  have oo : oP σ s4 := by
    rw [e4, e3, e2, e1]
    exact ((oP.pi _ _ _ (by decide)).trans (oP.pi _ _ _ (by decide))).trans ((oP.pi _ _ _ (by decide)).trans (oP.pi _ _ _ (by decide)))
  refine ⟨_, key (N + 1) 0 s4 (by omega) oo (fun i hi => absurd hi (by omega)) ?_ ?_ ?_ (fun _ => ⟨0, by decide, ?_⟩) (fun h => absurd h (by omega))⟩
  · rw [e4, xi_pi, if_neg (by decide), e3, xi_pi, if_neg (by decide), e2, xi_pi, if_neg (by decide), e1, xi_pi, if_pos ⟨rfl, rfl⟩]; rfl
  · rw [e4, xi_pi, if_neg (by decide), e3, xi_pi, if_neg (by decide), e2, xi_pi, if_pos ⟨rfl, rfl⟩]; show (0 : Int32) = oI 70000; decide
  · rw [e4, xi_pi, if_neg (by decide), e3, xi_pi, if_pos ⟨rfl, rfl⟩]; rfl
  · rw [e4, xi_pi, if_pos ⟨rfl, rfl⟩]; rfl
end SPLIT2
