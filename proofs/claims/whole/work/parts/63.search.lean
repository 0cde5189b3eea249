/-! SEARCHES, as pure rows of tries -/
def w_W (s : Int → Int) (x p q a b : Int) : Int → Int := fun i => if i = 0 then s 0 + 1 else if s 0 = 0 ∨ x < s 1 then (if i = 1 then x else if i = 2 then p else if i = 3 then q else if i = 4 then a else b) else s i
theorem w_W0 (s : Int → Int) (x p q a b : Int) : w_W s x p q a b 0 = s 0 + 1 := if_pos rfl
theorem w_W1 (s : Int → Int) (x p q a b : Int) : w_W s x p q a b 1 = if s 0 = 0 ∨ x < s 1 then x else s 1 := by
  unfold w_W
  rw [if_neg (by decide), if_pos rfl]
theorem w_Wy {s : Int → Int} {x p q a b : Int} (h : s 0 = 0 ∨ x < s 1) {i : Int} (hi : i ≠ 0) : w_W s x p q a b i = if i = 1 then x else if i = 2 then p else if i = 3 then q else if i = 4 then a else b := by
  unfold w_W
  rw [if_neg hi, if_pos h]
theorem w_Wn {s : Int → Int} {x p q a b : Int} (h : ¬ (s 0 = 0 ∨ x < s 1)) {i : Int} (hi : i ≠ 0) : w_W s x p q a b i = s i := by
  unfold w_W
  rw [if_neg hi, if_neg h]
def w_up (F : Int → (Int → Int) → Int → Int) (lo : Int) (s : Int → Int) : Nat → Int → Int
  | 0 => s
  | n + 1 => F (lo + n) (w_up F lo s n)
theorem w_up_s (F : Int → (Int → Int) → Int → Int) {lo k : Int} (s : Int → Int) (h : lo ≤ k) : w_up F lo s (k + 1 - lo).toNat = F k (w_up F lo s (k - lo).toNat) := by
  rw [show (k + 1 - lo).toNat = (k - lo).toNat + 1 by omega]
  show F (lo + ((k - lo).toNat : Int)) _ = _
  rw [show lo + ((k - lo).toNat : Int) = k by omega]
def w_b (s : Int → Int) (N : Int) : Prop := 0 ≤ s 0 ∧ s 0 ≤ N ∧ (0 < s 0 → 0 ≤ s 1 ∧ s 1 < 1000000)
theorem w_b_mono {s : Int → Int} {N N' : Int} (h : w_b s N) (hN : N ≤ N') : w_b s N' := ⟨h.1, by have := h.2.1; omega, h.2.2⟩
theorem w_b_W {s : Int → Int} {N x p q a b : Int} (h : w_b s N) (hx : 0 ≤ x ∧ x < 1000000) : w_b (w_W s x p q a b) (N + 1) := by
  obtain ⟨h1, h2, h3⟩ := h
  refine ⟨by rw [w_W0]; omega, by rw [w_W0]; omega, fun _ => ?_⟩
  rw [w_W1]
  split
  · exact hx
  · exact h3 (by omega)
theorem w_b_up {F : Int → (Int → Int) → Int → Int} {lo D : Int} {M : Nat} (hF : ∀ k s N, lo ≤ k → k < lo + M → w_b s N → w_b (F k s) (N + D)) {s : Int → Int} {N : Int} (hs : w_b s N) : ∀ n : Nat, n ≤ M → w_b (w_up F lo s n) (N + D * n) := by
  intro n
  induction n with
  | zero => intro _; exact w_b_mono hs (by omega)
  | succ n ih =>
    intro hn
    refine w_b_mono (hF (lo + n) _ _ (by omega) (by omega) (ih (by omega))) ?_
    rw [show ((n + 1 : Nat) : Int) = (n : Int) + 1 by omega, Int.mul_add]
    omega
/-- the class's cells, the model's -/
def w_C (m : q_Mem) (s : Int → Int) : Prop := m 73 0 = s 0 ∧ (0 < s 0 → ∀ i, 1 ≤ i → i ≤ 5 → m 73 i = s i)
def w_M (I : Int → Prop) (m : q_Mem) (s : Int → Int) : Prop := m 81 57 = s 0 ∧ (s 0 = 0 → m 81 58 = 1000000) ∧ (0 < s 0 → m 81 58 = s 1 ∧ ∀ i, 2 ≤ i → i ≤ 5 → I i → m 81 (57 + i) = s i)
theorem w_C_step {m : q_Mem} {s : Int → Int} {x p q a b N : Int} {K : q_Mem → q_Res} {Q : Int → q_Mem → Prop} (h : w_C m s) (hb : w_b s N) (hN : N < 1000000) (hx : 0 ≤ x ∧ x < 1000000) (hK : ∀ m', (∀ c, c ≠ 73 → m' c = m c) → w_C m' (w_W s x p q a b) → q_ok (K m') Q) : q_ok (q_bd (f_Sear_isBetter x m) fun v m' => if q_w v = 0 then K m' else q_bd (f_Sear_keep p q a b m') fun _ m'' => K m'') Q := by
  obtain ⟨b1, b2, b3⟩ := hb
  unfold f_Sear_isBetter f_Sear_isBetter_b28
  have e0 : q_up m 73 0 (m 73 0 + 1) 73 0 = m 73 0 + 1 := q_up_s _ _ _ _
  have e1 : q_up m 73 0 (m 73 0 + 1) 73 1 = m 73 1 := q_up_i (by decide)
  have yes : (s 0 = 0 ∨ x < s 1) → q_ok (q_bd (q_pf (q_up m 73 0 (m 73 0 + 1)) 73 1 x fun m1 => q_rz 1 m1) fun v m' => if q_w v = 0 then K m' else q_bd (f_Sear_keep p q a b m') fun _ m'' => K m'') Q := by
    intro hy
    rw [x_pf, x_rz1, x_bd, x_w1, if_neg (by decide)]
    unfold f_Sear_keep
    rw [x_pf, x_pf, x_pf, x_pf, x_rt, x_bd]
    refine hK _ (fun c hc => ?_) ⟨?_, fun _ i i1 i5 => ?_⟩
    · rw [q_up_f hc, q_up_f hc, q_up_f hc, q_up_f hc, q_up_f hc, q_up_f hc]
    · rw [w_W0, q_up_i (by decide), q_up_i (by decide), q_up_i (by decide), q_up_i (by decide), q_up_i (by decide), e0, h.1]
    · have hi : i = 1 ∨ i = 2 ∨ i = 3 ∨ i = 4 ∨ i = 5 := by omega
      rw [w_Wy hy (by omega)]
      rcases hi with rfl | rfl | rfl | rfl | rfl <;> simp [q_up]
  rw [x_pf, e0, e1, h.1, q_w_id (x := s 0 + 1) (by omega) (by omega), q_w_id (x := x) (by omega) (by omega)]
  rw [h.1] at yes
  by_cases c : s 0 + 1 ≤ 1
  · rw [if_pos c]
    exact yes (Or.inl (by omega))
  · have e2 := h.2 (by omega) 1 (by decide) (by decide)
    have b4 := b3 (by omega)
    rw [if_neg c, e2, q_w_id (x := s 1) (by omega) (by omega)]
    by_cases c2 : x < s 1
    · rw [if_pos c2]
      exact yes (Or.inr c2)
    · rw [if_neg c2, x_rz0, x_bd, x_w0, if_pos rfl]
      refine hK _ (fun c hc => q_up_f hc) ⟨?_, fun _ i i1 i5 => ?_⟩
      · rw [w_W0]; exact q_up_s _ _ _ _
      · rw [w_Wn (by omega) (by omega), q_up_i (by omega)]
        exact h.2 (by omega) i i1 i5
theorem w_M_step {I : Int → Prop} {m : q_Mem} {s : Int → Int} {x p q a b p' q' a' b' N : Int} (h : w_M I m s) (hb : w_b s N) (hN : N < 1000000) (hx : 0 ≤ x ∧ x < 1000000) (e2 : I 2 → p' = p) (e3 : I 3 → q' = q) (e4 : I 4 → a' = a) (e5 : I 5 → b' = b) : q_ok (f_Mod_weigh x p' q' a' b' m) (fun _ m' => (∀ c, c ≠ 81 → m' c = m c) ∧ (∀ j, j < 57 ∨ 62 < j → m' 81 j = m 81 j) ∧ w_M I m' (w_W s x p q a b)) := by
  obtain ⟨b1, b2, b3⟩ := hb
  obtain ⟨h1, h2, h3⟩ := h
  unfold f_Mod_weigh
  have e58 : q_up m 81 57 (m 81 57 + 1) 81 58 = m 81 58 := q_up_i (by decide)
  have hr : 0 ≤ m 81 58 ∧ m 81 58 ≤ 1000000 := by
    by_cases c : s 0 = 0
    · rw [h2 c]; omega
    · rw [(h3 (by omega)).1]
      have := b3 (by omega)
      omega
  have hiff : x < m 81 58 ↔ (s 0 = 0 ∨ x < s 1) := by
    by_cases c : s 0 = 0
    · rw [h2 c]; omega
    · rw [(h3 (by omega)).1]; omega
  rw [x_pf, e58, q_w_id (x := x) (by omega) (by omega), q_w_id (x := m 81 58) (by omega) (by omega)]
  by_cases c : x < m 81 58
  · have hy := hiff.mp c
    rw [if_pos c, x_pf, x_pf, x_pf, x_pf, x_pf]
    refine o_rt ⟨fun c hc => ?_, fun j hj => ?_, ?_, fun hz => ?_, fun _ => ⟨?_, fun i i2 i5 hi => ?_⟩⟩
    · rw [q_up_f hc, q_up_f hc, q_up_f hc, q_up_f hc, q_up_f hc, q_up_f hc]
    · rw [q_up_i (by omega), q_up_i (by omega), q_up_i (by omega), q_up_i (by omega), q_up_i (by omega), q_up_i (by omega)]
    · rw [w_W0, ← h1]; simp [q_up]
    · rw [w_W0] at hz; omega
    · rw [w_Wy hy (by decide)]; simp [q_up]
    · have hi' : i = 2 ∨ i = 3 ∨ i = 4 ∨ i = 5 := by omega
      rw [w_Wy hy (by omega)]
      rcases hi' with rfl | rfl | rfl | rfl
      · rw [← e2 hi]; simp [q_up]
      · rw [← e3 hi]; simp [q_up]
      · rw [← e4 hi]; simp [q_up]
      · rw [← e5 hi]; simp [q_up]
  · have hy : ¬ (s 0 = 0 ∨ x < s 1) := fun hx => c (hiff.mpr hx)
    rw [if_neg c]
    have h3' := h3 (by omega)
    refine o_rt ⟨fun c hc => q_up_f hc, fun j hj => q_up_i (by omega), ?_, fun hz => ?_, fun _ => ⟨?_, fun i i2 i5 hi => ?_⟩⟩
    · rw [w_W0, ← h1]; exact q_up_s _ _ _ _
    · rw [w_W0] at hz; omega
    · rw [w_Wn hy (by decide), e58]; exact h3'.1
    · rw [w_Wn hy (by omega), q_up_i (by omega)]; exact h3'.2 i i2 i5 hi
/-- what is tried -/
def w_cl (l : q_Mem) (P Q a b : Int) : Int := if P * a + Q * b = 0 then g_sh (l 0 0) (l 0 1) a b else 0
def w_S (l : q_Mem) (a b p q : Int) (s : Int → Int) : Int → Int := if g_law l p q = 1 ∧ w_cl l p q a b = 0 then w_W s (g_lat (l 0 0) (l 0 1) p q) p q a b else s
def w_L (l : q_Mem) (P Q t a b : Int) (s : Int → Int) : Int → Int := if g_line a b ∧ w_cl l P Q a b = 0 then w_W s (t * (l 0 0 * l 0 1 - g_sh (l 0 0) (l 0 1) a b)) P Q a b else s
def w_L1 (l : q_Mem) (P Q t a : Int) (s : Int → Int) : Int → Int := w_up (fun b s => w_L l P Q t a b s) (-3) s (4 - -3).toNat
def w_Ls (l : q_Mem) (P Q t : Int) (s : Int → Int) : Int → Int := w_up (fun a s => w_L1 l P Q t a s) (-3) s (4 - -3).toNat
def w_S1 (l : q_Mem) (a b r p : Int) (s : Int → Int) : Int → Int := w_up (fun q s => w_S l a b p q s) (-r) s (r + 1 - -r).toNat
def w_Ss (l : q_Mem) (a b r : Int) (s : Int → Int) : Int → Int := w_up (fun p s => w_S1 l a b r p s) (-r) s (r + 1 - -r).toNat
def w_P (l : q_Mem) (p q : Int) (s : Int → Int) : Int → Int := if g_law l p q = 1 then w_Ls l p q (g_lat (l 0 0) (l 0 1) p q) s else s
def w_P1 (l : q_Mem) (r p : Int) (s : Int → Int) : Int → Int := w_up (fun q s => w_P l p q s) (-r) s (r + 1 - -r).toNat
def w_Ps (l : q_Mem) (r : Int) (s : Int → Int) : Int → Int := w_up (fun p s => w_P1 l r p s) (-r) s (r + 1 - -r).toNat
theorem g_law_01 (l : q_Mem) (P Q : Int) : g_law l P Q = 1 ∨ g_law l P Q = 0 := by
  unfold g_law
  split
  · exact Or.inl rfl
  · exact Or.inr rfl
section search
variable {l : q_Mem}
theorem g_sh_rg (hw : g_lw l) (a b : Int) : 0 ≤ g_sh (l 0 0) (l 0 1) a b ∧ g_sh (l 0 0) (l 0 1) a b ≤ l 0 0 * l 0 1 := by
  have h1 := hw.1
  have h2 := hw.2.1
  unfold g_sh
  exact x_mulp (by omega) (by omega) (by omega) (by omega)
theorem w_cl_rg (hw : g_lw l) (P Q a b : Int) : 0 ≤ w_cl l P Q a b ∧ w_cl l P Q a b ≤ 100 := by
  have := g_sh_rg hw a b
  have := g_RC hw
  unfold w_cl
  split <;> omega
theorem w_cost (hw : g_lw l) {t a b : Int} (ht : 0 ≤ t ∧ t ≤ 163) : 0 ≤ t * (l 0 0 * l 0 1 - g_sh (l 0 0) (l 0 1) a b) ∧ t * (l 0 0 * l 0 1 - g_sh (l 0 0) (l 0 1) a b) < 1000000 := by
  have h1 := g_sh_rg hw a b
  have h2 := g_RC hw
  have := x_mulp (x := t) (z := l 0 0 * l 0 1 - g_sh (l 0 0) (l 0 1) a b) (a := 163) (b := 100) ht.1 ht.2 (by omega) (by omega)
  omega
theorem w_b_S (hw : g_lw l) {a b p q : Int} (hp : -9 ≤ p ∧ p ≤ 9) (hq : -9 ≤ q ∧ q ≤ 9) {s : Int → Int} {N : Int} (h : w_b s N) : w_b (w_S l a b p q s) (N + 1) := by
  unfold w_S
  split
  · have := g_lat_rg hw hp hq
    exact w_b_W h (by omega)
  · exact w_b_mono h (by omega)
theorem w_b_L (hw : g_lw l) {a b P Q t : Int} (ht : 0 ≤ t ∧ t ≤ 163) {s : Int → Int} {N : Int} (h : w_b s N) : w_b (w_L l P Q t a b s) (N + 1) := by
  unfold w_L
  split
  · exact w_b_W h (w_cost hw ht)
  · exact w_b_mono h (by omega)
theorem w_b_L1 (hw : g_lw l) {a P Q t : Int} (ht : 0 ≤ t ∧ t ≤ 163) {s : Int → Int} {N : Int} (h : w_b s N) (n : Nat) (hn : n ≤ 7) : w_b (w_up (fun b s => w_L l P Q t a b s) (-3) s n) (N + 7) :=
  w_b_mono (w_b_up (M := 7) (D := 1) (fun k s N _ _ hs => w_b_L hw ht hs) h n hn) (by omega)
theorem w_b_Ls (hw : g_lw l) {P Q t : Int} (ht : 0 ≤ t ∧ t ≤ 163) {s : Int → Int} {N : Int} (h : w_b s N) (n : Nat) (hn : n ≤ 7) : w_b (w_up (fun a s => w_L1 l P Q t a s) (-3) s n) (N + 49) :=
  w_b_mono (w_b_up (M := 7) (D := 7) (fun k s N _ _ hs => w_b_L1 hw ht hs _ (by decide)) h n hn) (by omega)
theorem w_b_S1 (hw : g_lw l) {a b r p : Int} (hr : 1 ≤ r ∧ r ≤ 9) (hp : -9 ≤ p ∧ p ≤ 9) {s : Int → Int} {N : Int} (h : w_b s N) (n : Nat) (hn : n ≤ 2 * r + 1) : w_b (w_up (fun q s => w_S l a b p q s) (-r) s n) (N + 19) :=
  w_b_mono (w_b_up (M := (2 * r + 1).toNat) (D := 1) (fun k s N _ _ hs => w_b_S hw hp (by omega) hs) h n (by omega)) (by omega)
theorem w_b_Ss (hw : g_lw l) {a b r : Int} (hr : 1 ≤ r ∧ r ≤ 9) {s : Int → Int} {N : Int} (h : w_b s N) (n : Nat) (hn : n ≤ 2 * r + 1) : w_b (w_up (fun p s => w_S1 l a b r p s) (-r) s n) (N + 361) :=
  w_b_mono (w_b_up (M := (2 * r + 1).toNat) (D := 19) (fun k s N _ _ hs => w_b_S1 hw hr (by omega) hs _ (by omega)) h n (by omega)) (by omega)
theorem w_b_P (hw : g_lw l) {p q : Int} (hp : -9 ≤ p ∧ p ≤ 9) (hq : -9 ≤ q ∧ q ≤ 9) {s : Int → Int} {N : Int} (h : w_b s N) : w_b (w_P l p q s) (N + 49) := by
  unfold w_P
  split
  · have := g_lat_rg hw hp hq
    exact w_b_Ls hw (by omega) h _ (by decide)
  · exact w_b_mono h (by omega)
theorem w_b_P1 (hw : g_lw l) {r p : Int} (hr : 1 ≤ r ∧ r ≤ 9) (hp : -9 ≤ p ∧ p ≤ 9) {s : Int → Int} {N : Int} (h : w_b s N) (n : Nat) (hn : n ≤ 2 * r + 1) : w_b (w_up (fun q s => w_P l p q s) (-r) s n) (N + 931) :=
  w_b_mono (w_b_up (M := (2 * r + 1).toNat) (D := 49) (fun k s N _ _ hs => w_b_P hw hp (by omega) hs) h n (by omega)) (by omega)
theorem w_b_Ps (hw : g_lw l) {r : Int} (hr : 1 ≤ r ∧ r ≤ 9) {s : Int → Int} {N : Int} (h : w_b s N) (n : Nat) (hn : n ≤ 2 * r + 1) : w_b (w_up (fun p s => w_P1 l r p s) (-r) s n) (N + 17689) :=
  w_b_mono (w_b_up (M := (2 * r + 1).toNat) (D := 931) (fun k s N _ _ hs => w_b_P1 hw hr (by omega) hs _ (by omega)) h n (by omega)) (by omega)
end search
