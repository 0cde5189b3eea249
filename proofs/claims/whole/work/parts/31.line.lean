/-! LINES: the points of a cell are whole steps of the line apart -/
/-- what a line can be, case by case -/
theorem g_line_cases {a b : Int} (h : g_line a b) {G : Int → Int → Prop} (hG : ∀ a b : Int, (a, b) ∈ ([(-3, -2), (-3, -1), (-3, 1), (-3, 2), (-2, -3), (-2, -1), (-2, 1), (-2, 3), (-1, -3), (-1, -2), (-1, -1), (-1, 0), (-1, 1), (-1, 2), (-1, 3), (0, -1), (0, 1), (1, -3), (1, -2), (1, -1), (1, 0), (1, 1), (1, 2), (1, 3), (2, -3), (2, -1), (2, 1), (2, 3), (3, -2), (3, -1), (3, 1), (3, 2)] : List (Int × Int)) → G a b) : G a b := by
  obtain ⟨ha, hb, hg⟩ := h
  apply hG
  have h1 : a = -3 ∨ a = -2 ∨ a = -1 ∨ a = 0 ∨ a = 1 ∨ a = 2 ∨ a = 3 := by omega
  have h2 : b = -3 ∨ b = -2 ∨ b = -1 ∨ b = 0 ∨ b = 1 ∨ b = 2 ∨ b = 3 := by omega
  rcases h1 with rfl | rfl | rfl | rfl | rfl | rfl | rfl <;> rcases h2 with rfl | rfl | rfl | rfl | rfl | rfl | rfl <;> first | decide | exact absurd hg (by decide)
theorem g_line_div {a b : Int} (h : g_line a b) {x y : Int} (e : b * x = a * y) : ∃ n, x = n * a ∧ y = n * b := by
  revert x y
  refine g_line_cases h (G := fun a b => ∀ {x y : Int}, b * x = a * y → ∃ n, x = n * a ∧ y = n * b) ?_
  intro a b hab x y e
  simp only [List.mem_cons, Prod.mk.injEq, List.not_mem_nil, or_false] at hab
  rcases hab with ⟨rfl, rfl⟩ | ⟨rfl, rfl⟩ | ⟨rfl, rfl⟩ | ⟨rfl, rfl⟩ | ⟨rfl, rfl⟩ | ⟨rfl, rfl⟩ | ⟨rfl, rfl⟩ | ⟨rfl, rfl⟩ | ⟨rfl, rfl⟩ | ⟨rfl, rfl⟩ | ⟨rfl, rfl⟩ | ⟨rfl, rfl⟩ | ⟨rfl, rfl⟩ | ⟨rfl, rfl⟩ | ⟨rfl, rfl⟩ | ⟨rfl, rfl⟩ | ⟨rfl, rfl⟩ | ⟨rfl, rfl⟩ | ⟨rfl, rfl⟩ | ⟨rfl, rfl⟩ | ⟨rfl, rfl⟩ | ⟨rfl, rfl⟩ | ⟨rfl, rfl⟩ | ⟨rfl, rfl⟩ | ⟨rfl, rfl⟩ | ⟨rfl, rfl⟩ | ⟨rfl, rfl⟩ | ⟨rfl, rfl⟩ | ⟨rfl, rfl⟩ | ⟨rfl, rfl⟩ | ⟨rfl, rfl⟩ | ⟨rfl, rfl⟩
  all_goals first | exact ⟨x / 3, by omega, by omega⟩ | exact ⟨-(x / 3), by omega, by omega⟩ | exact ⟨x / 2, by omega, by omega⟩ | exact ⟨-(x / 2), by omega, by omega⟩ | exact ⟨x, by omega, by omega⟩ | exact ⟨-x, by omega, by omega⟩ | exact ⟨y, by omega, by omega⟩ | exact ⟨-y, by omega, by omega⟩
abbrev g_on (a b : Int) : Prop := 0 < a ∨ (a = 0 ∧ 0 < b)
/-- the point a step of the line ahead of p -/
def g_pv (l : q_Mem) (a b p : Int) : Int := g_mv (l 0 0) (l 0 1) p (if g_on a b then -a else a) (if g_on a b then -b else b)
/-- a point ahead of p in its cell: then there is one a step ahead -/
theorem g_pv_of {l : q_Mem} {a b : Int} (h : g_line a b) {p q : Int} (hp : g_pt l p) (hq : g_pt l q) (hlt : q < p) (hk : g_key a b q = g_key a b p) : g_pv l a b p ≠ -1 := by
  have e : b * (q / 10 - p / 10) = a * (q % 10 - p % 10) := by
    unfold g_key at hk
    rw [Int.mul_sub, Int.mul_sub]; omega
  obtain ⟨n, n1, n2⟩ := g_line_div h e
  have hp1 := hp.1
  have hp2 := hp.2
  have hq1 := hq.1
  have hq2 := hq.2
  have lex : q / 10 - p / 10 < 0 ∨ (q / 10 - p / 10 = 0 ∧ q % 10 - p % 10 < 0) := by omega
  have key : g_in (l 0 0) (l 0 1) (p / 10 + (if g_on a b then -a else a)) (p % 10 + (if g_on a b then -b else b)) := by
    rw [n1, n2] at lex
    have r1 : 0 ≤ p / 10 + n * a ∧ p / 10 + n * a < l 0 0 := by omega
    have r2 : 0 ≤ p % 10 + n * b ∧ p % 10 + n * b < l 0 1 := by omega
    have r3 : 0 ≤ p / 10 ∧ p / 10 < l 0 0 := by omega
    have r4 : 0 ≤ p % 10 ∧ p % 10 < l 0 1 := by omega
    clear hk e hlt n1 n2 hq hp hp1 hp2 hq1 hq2
    generalize p / 10 = i at *
    generalize p % 10 = j at *
    revert lex r1 r2
    refine g_line_cases h (G := fun a b => (n * a < 0 ∨ (n * a = 0 ∧ n * b < 0)) → (0 ≤ i + n * a ∧ i + n * a < l 0 0) → (0 ≤ j + n * b ∧ j + n * b < l 0 1) → g_in (l 0 0) (l 0 1) (i + (if g_on a b then -a else a)) (j + (if g_on a b then -b else b))) ?_
    intro a b hab lex r1 r2
    simp only [List.mem_cons, Prod.mk.injEq, List.not_mem_nil, or_false] at hab
    rcases hab with ⟨rfl, rfl⟩ | ⟨rfl, rfl⟩ | ⟨rfl, rfl⟩ | ⟨rfl, rfl⟩ | ⟨rfl, rfl⟩ | ⟨rfl, rfl⟩ | ⟨rfl, rfl⟩ | ⟨rfl, rfl⟩ | ⟨rfl, rfl⟩ | ⟨rfl, rfl⟩ | ⟨rfl, rfl⟩ | ⟨rfl, rfl⟩ | ⟨rfl, rfl⟩ | ⟨rfl, rfl⟩ | ⟨rfl, rfl⟩ | ⟨rfl, rfl⟩ | ⟨rfl, rfl⟩ | ⟨rfl, rfl⟩ | ⟨rfl, rfl⟩ | ⟨rfl, rfl⟩ | ⟨rfl, rfl⟩ | ⟨rfl, rfl⟩ | ⟨rfl, rfl⟩ | ⟨rfl, rfl⟩ | ⟨rfl, rfl⟩ | ⟨rfl, rfl⟩ | ⟨rfl, rfl⟩ | ⟨rfl, rfl⟩ | ⟨rfl, rfl⟩ | ⟨rfl, rfl⟩ | ⟨rfl, rfl⟩ | ⟨rfl, rfl⟩
    all_goals first | (rw [if_pos (by decide)]; (try rw [if_pos (by decide)]); omega) | (rw [if_neg (by decide)]; (try rw [if_neg (by decide)]); omega)
  unfold g_pv g_mv
  rw [if_pos key]
  omega
theorem g_pv_pt {l : q_Mem} (hw : g_lw l) {a b : Int} (h : g_line a b) {p : Int} (hp : g_pt l p) (hv : g_pv l a b p ≠ -1) : g_pt l (g_pv l a b p) ∧ g_pv l a b p < p ∧ g_key a b (g_pv l a b p) = g_key a b p ∧ ∀ P Q : Int, P * a + Q * b = 0 → g_tk l P Q (g_pv l a b p) = g_tk l P Q p := by
  have hpt : g_pt l (g_pv l a b p) := g_mv_pt hw.1.2 hw.2.1.2 hv
  have a1 := g_mv_in hv
  have b1 := hw.1
  have b2 := hw.2.1
  have hp1 := hp.1
  have e1 : g_pv l a b p / 10 = p / 10 + (if g_on a b then -a else a) := by
    rw [show g_pv l a b p = _ from a1.1]; have := a1.2; omega
  have e2 : g_pv l a b p % 10 = p % 10 + (if g_on a b then -b else b) := by
    rw [show g_pv l a b p = _ from a1.1]; have := a1.2; omega
  have hab : ¬ (a = 0 ∧ b = 0) := fun ⟨z1, z2⟩ => by
    have h3 := h.2.2
    rw [z1, z2] at h3
    exact absurd h3 (by decide)
  refine ⟨hpt, ?_, ?_, fun P Q hPQ => ?_⟩
  · have := hpt.1
    by_cases c : g_on a b
    · rw [if_pos c] at e1 e2; rcases c with c | c <;> omega
    · rw [if_neg c] at e1 e2
      have : a < 0 ∨ (a = 0 ∧ b < 0) := by
        rcases Int.lt_trichotomy a 0 with x | x | x
        · exact Or.inl x
        · right; refine ⟨x, ?_⟩
          rcases Int.lt_trichotomy b 0 with y | y | y
          · exact y
          · exact absurd ⟨x, y⟩ hab
          · exact absurd (Or.inr ⟨x, y⟩) c
        · exact absurd (Or.inl x) c
      rcases this with c | c <;> omega
  · unfold g_key
    rw [e1, e2]
    by_cases c : g_on a b
    · rw [if_pos c, if_pos c, Int.mul_add, Int.mul_add, Int.mul_neg, Int.mul_neg, Int.mul_comm b a]; omega
    · rw [if_neg c, if_neg c, Int.mul_add, Int.mul_add, Int.mul_comm b a]; omega
  · unfold g_tk
    rw [e1, e2]
    by_cases c : g_on a b
    · rw [if_pos c, if_pos c, Int.mul_add, Int.mul_add, Int.mul_neg, Int.mul_neg]; omega
    · rw [if_neg c, if_neg c, Int.mul_add, Int.mul_add]; omega
/-- a clash, by the step ahead -/
def g_ck (l : q_Mem) (P Q a b p : Int) : Bool := decide (P * a + Q * b = 0) && g_pv l a b p != -1
theorem g_ck_iff {l : q_Mem} (hw : g_lw l) {P Q a b : Int} (h : g_line a b) {p : Int} (hp : g_pt l p) : g_ck l P Q a b p = true ↔ ∃ q, g_pt l q ∧ q < p ∧ g_tk l P Q q = g_tk l P Q p ∧ g_key a b q = g_key a b p := by
  unfold g_ck
  simp only [Bool.and_eq_true, decide_eq_true_eq, bne_iff_ne]
  constructor
  · intro ⟨h0, hv⟩
    obtain ⟨h1, h2, h3, h4⟩ := g_pv_pt hw h hp hv
    exact ⟨_, h1, h2, h4 P Q h0, h3⟩
  · intro ⟨q, hq, hlt, ht, hk⟩
    refine ⟨?_, g_pv_of h hp hq hlt hk⟩
    have e : b * (q / 10 - p / 10) = a * (q % 10 - p % 10) := by
      unfold g_key at hk
      rw [Int.mul_sub, Int.mul_sub]; omega
    obtain ⟨n, n1, n2⟩ := g_line_div h e
    have hn : n ≠ 0 := fun hn => by
      rw [hn] at n1 n2
      have := hp.1
      have := hq.1
      omega
    have e2 : n * (P * a + Q * b) = 0 := by
      unfold g_tk at ht
      have i1 : P * (q / 10) = P * (p / 10) + P * (n * a) := by rw [← n1, ← Int.mul_add]; congr 1; omega
      have i2 : Q * (q % 10) = Q * (p % 10) + Q * (n * b) := by rw [← n2, ← Int.mul_add]; congr 1; omega
      have i3 : n * (P * a + Q * b) = P * (n * a) + Q * (n * b) := by
        rw [Int.mul_add, ← Int.mul_assoc, ← Int.mul_assoc, Int.mul_comm n P, Int.mul_comm n Q, Int.mul_assoc, Int.mul_assoc]
      omega
    rcases Int.mul_eq_zero.mp e2 with c | c
    · exact absurd c hn
    · exact c
/-- counting over rows and columns -/
theorem g_cnt_10 (f g : Int → Bool) (n : Nat) : g_cnt (fun p => f (p / 10) && g (p % 10)) (10 * n) = g_cnt f n * g_cnt g 10 := by
  induction n with
  | zero => simp [g_cnt]
  | succ n ih =>
    have step : ∀ j : Nat, j ≤ 10 → g_cnt (fun p => f (p / 10) && g (p % 10)) (10 * n + j) = g_cnt (fun p => f (p / 10) && g (p % 10)) (10 * n) + (if f n = true then g_cnt g j else 0) := by
      intro j
      induction j with
      | zero => intro _; simp [g_cnt]
      | succ j ihj =>
        intro hj
        show g_cnt (fun p => f (p / 10) && g (p % 10)) (10 * n + j) + (if (f (((10 * n + j : Nat) : Int) / 10) && g (((10 * n + j : Nat) : Int) % 10)) = true then 1 else 0) = _
        rw [ihj (by omega), show ((10 * n + j : Nat) : Int) / 10 = n by omega, show ((10 * n + j : Nat) : Int) % 10 = j by omega]
        show _ = _ + (if f n = true then g_cnt g j + (if g j = true then 1 else 0) else 0)
        cases f n <;> simp [Int.add_assoc]
    have := step 10 (Nat.le_refl _)
    rw [show 10 * (n + 1) = 10 * n + 10 by omega, this, ih]
    show _ = (g_cnt f n + (if f n = true then 1 else 0)) * g_cnt g 10
    rw [Int.add_mul]
    cases f n <;> simp
theorem g_cnt_seg {R s : Int} (hR : 1 ≤ R ∧ R ≤ 10) (hs : -9 ≤ s ∧ s ≤ 9) : g_cnt (fun i => decide (i < R) && (decide (0 ≤ i + s) && decide (i + s < R))) 10 = max 0 (R - max s (-s)) := by
  have all : ∀ r : Fin 10, ∀ t : Fin 19, g_cnt (fun i => decide (i < (r : Nat) + 1) && (decide (0 ≤ i + ((t : Nat) - 9 : Int)) && decide (i + ((t : Nat) - 9 : Int) < (r : Nat) + 1))) 10 = max 0 ((r : Nat) + 1 - max ((t : Nat) - 9 : Int) (-((t : Nat) - 9 : Int))) := by decide +kernel
  have h := all ⟨(R - 1).toNat, by omega⟩ ⟨(s + 9).toNat, by omega⟩
  dsimp only at h
  rw [show (((R - 1).toNat : Nat) : Int) + 1 = R by omega, show (((s + 9).toNat : Nat) : Int) - 9 = s by omega] at h
  exact h
theorem g_sh_ca {l : q_Mem} (hw : g_lw l) {s t : Int} (hs : -9 ≤ s ∧ s ≤ 9) (ht : -9 ≤ t ∧ t ≤ 9) : g_ca l (fun p => g_mv (l 0 0) (l 0 1) p s t != -1) = g_sh (l 0 0) (l 0 1) s t := by
  have h1 := hw.1
  have h2 := hw.2.1
  have e := g_cnt_10 (fun i => decide (i < l 0 0) && (decide (0 ≤ i + s) && decide (i + s < l 0 0))) (fun j => decide (j < l 0 1) && (decide (0 ≤ j + t) && decide (j + t < l 0 1))) 10
  rw [g_cnt_seg h1 hs, g_cnt_seg h2 ht] at e
  unfold g_sh
  rw [← e]
  refine g_cnt_congr (fun p p0 p1 => ?_)
  dsimp only
  by_cases c : g_th (l 0 0) (l 0 1) p
  · by_cases ci : g_in (l 0 0) (l 0 1) (p / 10 + s) (p % 10 + t)
    · have hv : g_mv (l 0 0) (l 0 1) p s t ≠ -1 := by unfold g_mv; rw [if_pos ci]; omega
      have hv2 : (g_mv (l 0 0) (l 0 1) p s t != -1) = true := by simpa using hv
      rw [hv2, decide_eq_true c, decide_eq_true c.1, decide_eq_true c.2, decide_eq_true ci.1, decide_eq_true ci.2.1, decide_eq_true ci.2.2.1, decide_eq_true ci.2.2.2]
      rfl
    · have hv : g_mv (l 0 0) (l 0 1) p s t = -1 := if_neg ci
      rw [hv]
      have : (decide (0 ≤ p / 10 + s) && decide (p / 10 + s < l 0 0) && (decide (0 ≤ p % 10 + t) && decide (p % 10 + t < l 0 1))) = false := by
        cases hz : (decide (0 ≤ p / 10 + s) && decide (p / 10 + s < l 0 0) && (decide (0 ≤ p % 10 + t) && decide (p % 10 + t < l 0 1))) with
        | false => rfl
        | true =>
          simp only [Bool.and_eq_true, decide_eq_true_eq] at hz
          exact absurd ⟨hz.1.1, hz.1.2, hz.2.1, hz.2.2⟩ ci
      simp only [decide_eq_true c.1, decide_eq_true c.2, Bool.true_and, this]
      simp
  · have : (decide (p / 10 < l 0 0) && decide (p % 10 < l 0 1)) = false := by
      cases hz : (decide (p / 10 < l 0 0) && decide (p % 10 < l 0 1)) with
      | false => rfl
      | true =>
        simp only [Bool.and_eq_true, decide_eq_true_eq] at hz
        exact absurd ⟨hz.1, hz.2⟩ c
    rw [decide_eq_false c, Bool.false_and]
    cases hz : (decide (p / 10 < l 0 0)) with
    | false => simp
    | true => rw [hz, Bool.true_and] at this; simp [this]
theorem g_sh_neg (R C a b : Int) : g_sh R C (-a) (-b) = g_sh R C a b := by
  unfold g_sh
  rw [show max (-a) (- -a) = max a (-a) by omega, show max (-b) (- -b) = max b (-b) by omega]
theorem g_pv_ca {l : q_Mem} (hw : g_lw l) {a b : Int} (h : g_line a b) : g_ca l (fun p => g_pv l a b p != -1) = g_sh (l 0 0) (l 0 1) a b := by
  have h1 := h.1
  have h2 := h.2.1
  unfold g_pv
  by_cases c : g_on a b
  · simp only [if_pos c]
    rw [g_sh_ca hw (by omega) (by omega), g_sh_neg]
  · simp only [if_neg c]
    exact g_sh_ca hw (by omega) (by omega)
theorem g_ck_ca {l : q_Mem} (hw : g_lw l) {P Q a b : Int} (h : g_line a b) : g_ca l (g_ck l P Q a b) = if P * a + Q * b = 0 then g_sh (l 0 0) (l 0 1) a b else 0 := by
  by_cases c : P * a + Q * b = 0
  · rw [if_pos c, ← g_pv_ca hw h]
    refine g_ca_congr (fun p _ => ?_)
    unfold g_ck
    rw [decide_eq_true c, Bool.true_and]
  · rw [if_neg c]
    refine g_cnt_zero.mpr (fun p _ _ => ?_)
    unfold g_ck
    rw [decide_eq_false c]; simp
/-! how many cells: each has one first point -/
def g_sum (f : Int → Int) : Nat → Int
  | 0 => 0
  | n + 1 => g_sum f n + f n
theorem g_sum_add (f g : Int → Int) (n : Nat) : g_sum (fun x => f x + g x) n = g_sum f n + g_sum g n := by
  induction n with
  | zero => rfl
  | succ n ih => show g_sum _ n + (f n + g n) = (g_sum f n + f n) + (g_sum g n + g n); rw [ih]; omega
theorem g_sum_one {x : Int} {n : Nat} (h0 : 0 ≤ x) (h1 : x < n) : g_sum (fun y => if x = y then 1 else 0) n = 1 := by
  have zero : ∀ n : Nat, (n : Int) ≤ x → g_sum (fun y => if x = y then 1 else 0) n = 0 := by
    intro n
    induction n with
    | zero => intro _; rfl
    | succ n ih => intro hn; show g_sum _ n + (if x = (n : Int) then 1 else 0) = 0; rw [ih (by omega), if_neg (by omega)]; rfl
  induction n with
  | zero => omega
  | succ n ih =>
    show g_sum _ n + (if x = (n : Int) then 1 else 0) = 1
    by_cases e : x = n
    · rw [if_pos e, zero n (by omega)]; rfl
    · rw [if_neg e, ih (by omega)]; rfl
theorem g_sum_cnt (F : Int → Bool) (K : Int → Int) {n M : Nat} (hK : ∀ p : Int, 0 ≤ p → p < n → F p = true → 0 ≤ K p ∧ K p < M) : g_sum (fun x => g_cnt (fun p => F p && K p == x) n) M = g_cnt F n := by
  induction n with
  | zero =>
    show g_sum (fun _ => 0) M = 0
    clear hK
    induction M with
    | zero => rfl
    | succ M ih => show g_sum _ M + 0 = 0; rw [ih]; rfl
  | succ n ih =>
    show g_sum (fun x => g_cnt (fun p => F p && K p == x) n + (if (F n && K n == x) = true then 1 else 0)) M = g_cnt F n + (if F n = true then 1 else 0)
    rw [g_sum_add, ih (fun p p0 p1 => hK p p0 (by omega))]
    congr 1
    cases hf : F n with
    | false =>
      simp only [Bool.false_and]
      clear ih hK
      induction M with
      | zero => rfl
      | succ M ih => show g_sum _ M + _ = _; rw [ih]; rfl
    | true =>
      have hk := hK n (by omega) (by omega) hf
      simp only [Bool.true_and, beq_iff_eq, if_true]
      exact g_sum_one hk.1 hk.2
theorem g_sum_congr {f g : Int → Int} {n : Nat} (h : ∀ x : Int, 0 ≤ x → x < n → f x = g x) : g_sum f n = g_sum g n := by
  induction n with
  | zero => rfl
  | succ n ih => show g_sum f n + f n = g_sum g n + g n; rw [ih (fun x x0 x1 => h x x0 (by omega)), h n (by omega) (by omega)]
theorem g_cnt_sum (P : Int → Bool) (n : Nat) : g_cnt P n = g_sum (fun x => if P x = true then 1 else 0) n := by
  induction n with
  | zero => rfl
  | succ n ih => show g_cnt P n + _ = g_sum _ n + _; rw [ih]
/-- the first point of a key -/
theorem g_first {l : q_Mem} (hw : g_lw l) {a b : Int} (h : g_line a b) : ∀ (n : Nat) (p : Int), g_pt l p → p ≤ n → ∃ q, g_pt l q ∧ g_pv l a b q = -1 ∧ g_key a b q = g_key a b p := by
  intro n
  induction n with
  | zero =>
    intro p hp hn
    by_cases c : g_pv l a b p = -1
    · exact ⟨p, hp, c, rfl⟩
    · obtain ⟨h1, h2, -⟩ := g_pv_pt hw h hp c
      have := h1.1
      omega
  | succ n ih =>
    intro p hp hn
    by_cases c : g_pv l a b p = -1
    · exact ⟨p, hp, c, rfl⟩
    · obtain ⟨h1, h2, h3, -⟩ := g_pv_pt hw h hp c
      obtain ⟨q, q1, q2, q3⟩ := ih _ h1 (by omega)
      exact ⟨q, q1, q2, q3.trans h3⟩
theorem g_cnt_one {P : Int → Bool} {n : Nat} {q : Int} (h0 : 0 ≤ q) (h1 : q < n) (hq : P q = true) (hu : ∀ k : Int, 0 ≤ k → k < n → P k = true → k = q) : g_cnt P n = 1 := by
  have e := g_cnt_flip (P := fun _ => false) (P' := P) h0 h1 (fun k k0 k1 kq => by
    cases hp : P k with
    | false => rfl
    | true => exact absurd (hu k k0 k1 hp) kq) rfl hq
  rw [e, g_cnt_zero.mpr (fun _ _ _ => rfl)]
  rfl
theorem g_cc_eq {l : q_Mem} (hw : g_lw l) {a b : Int} (h : g_line a b) : g_cc l a b = l 0 0 * l 0 1 - g_sh (l 0 0) (l 0 1) a b := by
  have e1 : g_cc l a b = g_cnt (fun p => decide (g_th (l 0 0) (l 0 1) p) && g_pv l a b p == -1) 100 := by
    rw [← g_sum_cnt (fun p => decide (g_th (l 0 0) (l 0 1) p) && g_pv l a b p == -1) (fun p => g_key a b p + 64) (n := 100) (M := 128) (fun p p0 p1 hp => by
      simp only [Bool.and_eq_true, decide_eq_true_eq] at hp
      have := g_key_rg hw h.1 h.2.1 (p := p) ⟨⟨p0, p1⟩, hp.1⟩
      omega)]
    unfold g_cc
    rw [g_cnt_sum]
    refine g_sum_congr (fun x x0 x1 => ?_)
    by_cases c : g_oc l a b (x - 64) = true
    · rw [if_pos c]
      obtain ⟨p, hp, hk⟩ := g_oc_ex c
      obtain ⟨q, q1, q2, q3⟩ := g_first hw h 100 p hp (by have := hp.1; omega)
      refine (g_cnt_one q1.1.1 q1.1.2 ?_ ?_).symm
      · simp only [Bool.and_eq_true, decide_eq_true_eq, beq_iff_eq]
        exact ⟨⟨q1.2, q2⟩, by omega⟩
      · intro k k0 k1 hk2
        simp only [Bool.and_eq_true, decide_eq_true_eq, beq_iff_eq] at hk2
        have hkp : g_pt l k := ⟨⟨k0, k1⟩, hk2.1.1⟩
        rcases Int.lt_trichotomy k q with o | o | o
        · exact absurd q2 (g_pv_of h q1 hkp o (by omega))
        · exact o
        · exact absurd hk2.1.2 (g_pv_of h hkp q1 o (by omega))
    · rw [if_neg c]
      refine (g_cnt_zero.mpr (fun k k0 k1 => ?_)).symm
      cases hz : (decide (g_th (l 0 0) (l 0 1) k) && g_pv l a b k == -1 && g_key a b k + 64 == x) with
      | false => rfl
      | true =>
        simp only [Bool.and_eq_true, decide_eq_true_eq, beq_iff_eq] at hz
        have := g_oc_pt (a := a) (b := b) (show g_pt l k from ⟨⟨k0, k1⟩, hz.1.1⟩)
        rw [show g_key a b k = x - 64 by omega] at this
        exact absurd this c
  have e2 := g_ca_or (l := l) (X := fun p => g_pv l a b p == -1) (Y := fun p => g_pv l a b p != -1) (Z := fun _ => true) (fun p _ => by
    by_cases c : g_pv l a b p = -1 <;> simp [c])
  rw [g_ca_true hw, g_pv_ca hw h] at e2
  rw [e1]
  have e3 : g_ca l (fun p => g_pv l a b p == -1) = g_cnt (fun p => decide (g_th (l 0 0) (l 0 1) p) && g_pv l a b p == -1) 100 := rfl
  omega
