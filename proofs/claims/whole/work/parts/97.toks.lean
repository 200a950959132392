/-! TOKENS of a text: its codes c, its length l -/
def rwd : List (List Nat) := [[100, 101, 99, 108, 97, 114, 101, 45, 99, 111, 110, 115, 116], [100, 101, 102, 105, 110, 101, 45, 102, 117, 110], [97, 115, 115, 101, 114, 116], [66, 111, 111, 108], [95], [66, 105, 116, 86, 101, 99], [65, 114, 114, 97, 121], [116, 114, 117, 101], [102, 97, 108, 115, 101], [108, 101, 116], [101, 120, 116, 114, 97, 99, 116], [122, 101, 114, 111, 95, 101, 120, 116, 101, 110, 100], [115, 105, 103, 110, 95, 101, 120, 116, 101, 110, 100], [110, 111, 116], [97, 110, 100], [111, 114], [120, 111, 114], [61, 62], [105, 116, 101], [61], [100, 105, 115, 116, 105, 110, 99, 116], [98, 118, 110, 111, 116], [98, 118, 110, 101, 103], [98, 118, 97, 110, 100], [98, 118, 111, 114], [98, 118, 120, 111, 114], [98, 118, 97, 100, 100], [98, 118, 109, 117, 108], [98, 118, 115, 117, 98], [98, 118, 117, 100, 105, 118], [98, 118, 117, 114, 101, 109], [98, 118, 115, 100, 105, 118], [98, 118, 115, 114, 101, 109], [98, 118, 115, 104, 108], [98, 118, 108, 115, 104, 114], [98, 118, 97, 115, 104, 114], [98, 118, 117, 108, 116], [98, 118, 117, 108, 101], [98, 118, 117, 103, 116], [98, 118, 117, 103, 101], [98, 118, 115, 108, 116], [98, 118, 115, 108, 101], [98, 118, 115, 103, 116], [98, 118, 115, 103, 101], [99, 111, 110, 99, 97, 116], [115, 101, 108, 101, 99, 116], [115, 116, 111, 114, 101]]
def rws (n : Nat) : List Nat := rwd.getD n []
def rf : Nat → Nat
  | 0 => 0
  | n + 1 => rf n + (rws n).length + 1
def qn (m : Nat) : Nat := if m < 34 then m + 13 else if m < 37 then m - 24 else m - 37
def rg : Nat → Nat
  | 0 => 0
  | m + 1 => rg m + 1 + (rws (qn m)).length
theorem rws_f : ∀ n, n < 47 → rf n + (rws n).length < 295 ∧ 1 ≤ (rws n).length ∧ (rws n).length < 16 ∧ chc 0 (rf n + (rws n).length) = 32 ∧ ∀ i, i < (rws n).length → chc 0 (rf n + i) = (rws n).getD i 0 := by decide +kernel
theorem rws_g : ∀ m, m < 47 → qn m < 47 ∧ rg m + 1 + (rws (qn m)).length < 296 ∧ chc 2 (rg m) = 32 ∧ chc 2 (rg m + 1 + (rws (qn m)).length) = 32 ∧ ∀ i, i < (rws (qn m)).length → chc 2 (rg m + 1 + i) = (rws (qn m)).getD i 0 ∧ (rws (qn m)).getD i 0 ≠ 32 := by decide +kernel
theorem rg_47 : rg 47 = 295 := by decide +kernel
theorem qn_all : ∀ n, n < 47 → ∃ m, m < 47 ∧ qn m = n := by
  intro n h
  by_cases a : n < 10
  · exact ⟨n + 37, by omega, by unfold qn; rw [if_neg (by omega), if_neg (by omega)]; omega⟩
  · by_cases b : n < 13
    · exact ⟨n + 24, by omega, by unfold qn; rw [if_neg (by omega), if_pos (by omega)]; omega⟩
    · exact ⟨n - 13, by omega, by unfold qn; rw [if_pos (by omega)]; omega⟩
theorem rws_ne : ∀ n, n < 47 → ∀ m, m < 47 → rws n = rws m → n = m := by decide +kernel
def rsvA (w : List Nat) : Nat → Option Nat
  | 0 => none
  | n + 1 => if rws n = w then some n else rsvA w n
def rsv (w : List Nat) : Option Nat := rsvA w 47
theorem rsvA_some {w : List Nat} {n : Nat} : ∀ k, rsvA w k = some n → n < k ∧ rws n = w := by
  intro k
  induction k with
  | zero => intro h; cases h
  | succ k ih =>
    intro h
    unfold rsvA at h
    by_cases e : rws k = w
    · rw [if_pos e] at h
      cases h
      exact ⟨Nat.lt_succ_self _, e⟩
    · rw [if_neg e] at h
      exact ⟨Nat.lt_succ_of_lt (ih h).1, (ih h).2⟩
theorem rsvA_none {w : List Nat} : ∀ k, rsvA w k = none → ∀ n, n < k → rws n ≠ w := by
  intro k
  induction k with
  | zero => intro _ n hn; omega
  | succ k ih =>
    intro h n hn
    unfold rsvA at h
    by_cases e : rws k = w
    · rw [if_pos e] at h; cases h
    · rw [if_neg e] at h
      by_cases c : n = k
      · rw [c]; exact e
      · exact ih h n (by omega)
theorem rsv_lt {w : List Nat} {n : Nat} (h : rsv w = some n) : n < 47 ∧ rws n = w := rsvA_some 47 h
theorem rsv_eq {w : List Nat} {n : Nat} (hn : n < 47) (e : rws n = w) : rsv w = some n := by
  cases h : rsv w with
  | none => exact absurd e (rsvA_none 47 h n hn)
  | some m =>
    have := rsv_lt h
    rw [rws_ne n hn m this.1 (e.trans this.2.symm)]
theorem rsv_no {w : List Nat} (h : ∀ n, n < 47 → rws n ≠ w) : rsv w = none := by
  cases e : rsv w with
  | none => rfl
  | some m => exact absurd (rsv_lt e).2 (h m (rsv_lt e).1)
/-- the letters from p up to q -/
def wtx (c : Nat → Nat) (p q : Nat) : List Nat := (List.range (q - p)).map (fun i => c (p + i))
theorem wtx_len (c : Nat → Nat) (p q : Nat) : (wtx c p q).length = q - p := by
  unfold wtx; rw [List.length_map, List.length_range]
theorem wtx_at {c : Nat → Nat} {p q i : Nat} (h : i < q - p) : (wtx c p q).getD i 0 = c (p + i) := by
  unfold wtx
  rw [List.getD_eq_getElem?_getD, List.getElem?_map, List.getElem?_range h]
  rfl
theorem lst_eq {a b : List Nat} : a = b ↔ a.length = b.length ∧ ∀ i, i < a.length → a.getD i 0 = b.getD i 0 := by
  constructor
  · intro h; subst h; exact ⟨rfl, fun _ _ => rfl⟩
  · rintro ⟨h1, h2⟩
    apply List.ext_getElem h1
    intro i i1 i2
    have := h2 i i1
    rw [List.getD_eq_getElem?_getD, List.getD_eq_getElem?_getD, List.getElem?_eq_getElem i1, List.getElem?_eq_getElem i2] at this
    exact this
theorem wtx_eq {c : Nat → Nat} {p q : Nat} {w : List Nat} : wtx c p q = w ↔ q - p = w.length ∧ ∀ i, i < w.length → c (p + i) = w.getD i 0 := by
  rw [lst_eq, wtx_len]
  constructor
  · rintro ⟨h1, h2⟩
    refine ⟨h1, fun i hi => ?_⟩
    rw [← h2 i (by omega), wtx_at (by omega)]
  · rintro ⟨h1, h2⟩
    refine ⟨h1, fun i hi => ?_⟩
    rw [wtx_at hi]
    exact h2 i (by omega)
def skp (c : Nat → Nat) (l : Nat) : Nat → Bool → Nat → Nat
  | 0, _, p => p
  | n + 1, r, p => if p < l then (if c p = 10 then skp c l n false (p + 1) else if c p = 59 then skp c l n true (p + 1) else if r = true ∨ c p = 9 ∨ c p = 13 ∨ c p = 32 then skp c l n r (p + 1) else p) else p
theorem skp_le {c : Nat → Nat} {l : Nat} : ∀ n r p, p ≤ l → p ≤ skp c l n r p ∧ skp c l n r p ≤ l := by
  intro n
  induction n with
  | zero => intro r p h; exact ⟨Nat.le_refl _, h⟩
  | succ n ih =>
    intro r p h
    unfold skp
    by_cases h1 : p < l
    · rw [if_pos h1]
      split
      · have := ih false (p + 1) h1; omega
      · split
        · have := ih true (p + 1) h1; omega
        · split
          · have := ih r (p + 1) h1; omega
          · omega
    · rw [if_neg h1]; omega
def wnd (c : Nat → Nat) (l : Nat) : Nat → Nat → Nat
  | 0, p => p
  | n + 1, p => if p < l ∧ isW (c p) = true then wnd c l n (p + 1) else p
theorem wnd_le {c : Nat → Nat} {l : Nat} : ∀ n p, p ≤ l → p ≤ wnd c l n p ∧ wnd c l n p ≤ l ∧ ∀ i, p ≤ i → i < wnd c l n p → isW (c i) = true := by
  intro n
  induction n with
  | zero => intro p h; exact ⟨Nat.le_refl _, h, fun i h1 h2 => absurd h2 (by unfold wnd; omega)⟩
  | succ n ih =>
    intro p h
    unfold wnd
    by_cases h1 : p < l ∧ isW (c p) = true
    · rw [if_pos h1]
      have := ih (p + 1) h1.1
      refine ⟨by omega, this.2.1, fun i q1 q2 => ?_⟩
      by_cases e : i = p
      · rw [e]; exact h1.2
      · exact this.2.2 i (by omega) q2
    · rw [if_neg h1]
      exact ⟨Nat.le_refl _, h, fun i h1 h2 => absurd h2 (by omega)⟩
theorem isW_lt {b : Nat} (h : b < 256) (w : isW b = true) : b < 128 ∧ b ≠ 32 := by
  have : ∀ b, b < 256 → isW b = true → b < 128 ∧ b ≠ 32 := by decide +kernel
  exact this b h w
def dlt (d : Option Nat) (k : Nat) : Bool := match d with
  | none => false
  | some v => decide (v < k)
/-- digits of a base from p up to q -/
def alD (c : Nat → Nat) (k p q : Nat) : Bool := decide (∀ i, i < q → p ≤ i → dlt (dgv (c i)) k = true)
theorem dlt_10 (b : Nat) : dlt (dgv b) 10 = dig b := by
  unfold dig
  by_cases h : 48 ≤ b ∧ b ≤ 57
  · rw [decide_eq_true h]
    unfold dgv
    rw [if_pos h]
    exact decide_eq_true (by omega)
  · rw [decide_eq_false h]
    unfold dgv
    rw [if_neg h]
    by_cases h2 : 97 ≤ b ∧ b ≤ 102
    · rw [if_pos h2]; exact decide_eq_false (by omega)
    · rw [if_neg h2]
      by_cases h3 : 65 ≤ b ∧ b ≤ 70
      · rw [if_pos h3]; exact decide_eq_false (by omega)
      · rw [if_neg h3]; rfl
def kow (c : Nat → Nat) (p q : Nat) : Nat :=
  if dig (c p) = true then (if (c p ≠ 48 ∨ q = p + 1) ∧ alD c 10 p q = true then 2 else 18)
  else if c p ≠ 35 then 5
  else if q < p + 3 then 18
  else if c (p + 1) = 98 ∧ q ≤ p + 66 ∧ alD c 2 (p + 2) q = true then 3
  else if c (p + 1) = 120 ∧ q ≤ p + 18 ∧ alD c 16 (p + 2) q = true then 4
  else 18
theorem kow_5 {c : Nat → Nat} {p q : Nat} : kow c p q = 5 ↔ dig (c p) = false ∧ c p ≠ 35 := by
  unfold kow
  constructor
  · intro h
    split at h
    · split at h <;> omega
    · rename_i z
      refine ⟨by cases e : dig (c p) with | true => exact absurd e z | false => rfl, fun e => ?_⟩
      rw [if_neg (by omega)] at h
      split at h
      · omega
      · split at h
        · omega
        · split at h <;> omega
  · rintro ⟨h1, h2⟩
    rw [if_neg (by rw [h1]; decide), if_pos h2]
theorem kow_cs (c : Nat → Nat) (p q : Nat) : 2 ≤ kow c p q ∧ (kow c p q ≤ 5 ∨ kow c p q = 18) := by
  unfold kow
  split
  · split <;> omega
  · split
    · omega
    · split
      · omega
      · split
        · omega
        · split <;> omega
abbrev Tk : Type := Nat × Nat × Nat × Option Nat
def tk2 (c : Nat → Nat) (l f o : Nat) : Tk × Nat × Nat :=
  if l ≤ f then ((19, f, f, none), f, o)
  else if c f = 40 then ((if o < 70060 then 0 else 26, f, f + 1, none), f + 1, o + 1)
  else if c f = 41 then ((1, f, f + 1, none), f + 1, o - 1)
  else if wnd c l (l - f) f = f then ((17, f, f, none), f, o)
  else ((kow c f (wnd c l (l - f) f), f, wnd c l (l - f) f, if kow c f (wnd c l (l - f) f) = 5 then rsv (wtx c f (wnd c l (l - f) f)) else none), wnd c l (l - f) f, o)
def tkn (c : Nat → Nat) (l p o : Nat) : Tk × Nat × Nat := tk2 c l (skp c l (l - p) false p) o
def pos (c : Nat → Nat) (l : Nat) : Nat → Nat × Nat
  | 0 => (0, 70000)
  | j + 1 => (tkn c l (pos c l j).1 (pos c l j).2).2
def tok (c : Nat → Nat) (l j : Nat) : Tk := (tkn c l (pos c l j).1 (pos c l j).2).1
/-- how a token lies and what goes on behind it -/
theorem tk2_le {c : Nat → Nat} {l f o : Nat} (h : f ≤ l) : (tk2 c l f o).1.2.1 = f ∧ f ≤ (tk2 c l f o).1.2.2.1 ∧ (tk2 c l f o).1.2.2.1 = (tk2 c l f o).2.1 ∧ (tk2 c l f o).2.1 ≤ l ∧ ((tk2 c l f o).1.1 < 16 → f < (tk2 c l f o).2.1) ∧ (tk2 c l f o).1.1 < 32 := by
  have w := wnd_le (c := c) (l - f) f h
  unfold tk2
  split
  · refine ⟨rfl, Nat.le_refl _, rfl, h, fun q => ?_, ?_⟩
    · have q : (19 : Nat) < 16 := q
      omega
    · show (19 : Nat) < 32
      decide
  · split
    · refine ⟨rfl, Nat.le_succ _, rfl, ?_, fun q => Nat.lt_succ_self _, ?_⟩
      · show f + 1 ≤ l; omega
      · show (if o < 70060 then 0 else 26) < 32; split <;> omega
    · split
      · refine ⟨rfl, Nat.le_succ _, rfl, ?_, fun q => Nat.lt_succ_self _, ?_⟩
        · show f + 1 ≤ l; omega
        · show (1 : Nat) < 32
          decide
      · split
        · refine ⟨rfl, Nat.le_refl _, rfl, h, fun q => ?_, ?_⟩
          · have q : (17 : Nat) < 16 := q
            omega
          · show (17 : Nat) < 32
            decide
        · rename_i z
          refine ⟨rfl, w.1, rfl, w.2.1, fun q => ?_, ?_⟩
          · show f < wnd c l (l - f) f
            omega
          · have := kow_cs c f (wnd c l (l - f) f)
            show kow c _ _ < 32
            omega
theorem tkn_le {c : Nat → Nat} {l p o : Nat} (h : p ≤ l) : p ≤ (tkn c l p o).1.2.1 ∧ (tkn c l p o).1.2.1 ≤ (tkn c l p o).1.2.2.1 ∧ (tkn c l p o).1.2.2.1 = (tkn c l p o).2.1 ∧ (tkn c l p o).2.1 ≤ l ∧ ((tkn c l p o).1.1 < 16 → (tkn c l p o).1.2.1 < (tkn c l p o).2.1) ∧ (tkn c l p o).1.1 < 32 := by
  have s := skp_le (c := c) (l - p) false p h
  have t := tk2_le (c := c) (o := o) s.2
  unfold tkn
  refine ⟨by rw [t.1]; exact s.1, by rw [t.1]; exact t.2.1, t.2.2.1, t.2.2.2.1, fun q => by rw [t.1]; exact t.2.2.2.2.1 q, t.2.2.2.2.2⟩
theorem pos_le {c : Nat → Nat} {l : Nat} : ∀ j, (pos c l j).1 ≤ l := by
  intro j
  induction j with
  | zero => exact Nat.zero_le _
  | succ j ih => exact (tkn_le ih).2.2.2.1
theorem pos_up {c : Nat → Nat} {l : Nat} : ∀ j, (∀ i, i < j → (tok c l i).1 < 16) → j ≤ (pos c l j).1 := by
  intro j
  induction j with
  | zero => intro _; exact Nat.zero_le _
  | succ j ih =>
    intro h
    have := ih (fun i hi => h i (by omega))
    have t := tkn_le (c := c) (l := l) (o := (pos c l j).2) (pos_le (c := c) (l := l) j)
    have u := t.2.2.2.2.1 (h j (Nat.lt_succ_self _))
    show j + 1 ≤ (tkn c l (pos c l j).1 (pos c l j).2).2.1
    omega
/-- there is a first bad one -/
theorem tok_end (c : Nat → Nat) (l : Nat) : ∃ N, N ≤ l ∧ (∀ j, j < N → (tok c l j).1 < 16) ∧ 16 ≤ (tok c l N).1 := by
  have key : ∀ k, (∀ j, j < k → (tok c l j).1 < 16) ∨ ∃ N, N < k ∧ (∀ j, j < N → (tok c l j).1 < 16) ∧ 16 ≤ (tok c l N).1 := by
    intro k
    induction k with
    | zero => exact .inl (fun j hj => by omega)
    | succ k ih =>
      rcases ih with h | ⟨N, h1, h2⟩
      · by_cases e : (tok c l k).1 < 16
        · refine .inl (fun j hj => ?_)
          by_cases d : j = k
          · rw [d]; exact e
          · exact h j (by omega)
        · exact .inr ⟨k, Nat.lt_succ_self _, h, by omega⟩
      · exact .inr ⟨N, by omega, h2⟩
  rcases key (l + 1) with h | ⟨N, h1, h2⟩
  · have := pos_up (c := c) (l := l) (l + 1) h
    have := pos_le (c := c) (l := l) (l + 1)
    omega
  · exact ⟨N, by omega, h2⟩
