/-! EVALUATING THE FUNCTIONAL CODE -/
theorem x_bd (v : Int) (m : q_Mem) (K : Int → q_Mem → q_Res) : q_bd (some (v, m)) K = K v m := rfl
theorem x_rt (v : Int) (m : q_Mem) : q_rt v m = some (v, m) := rfl
theorem x_pf (m : q_Mem) (r j v : Int) (K : q_Mem → q_Res) : q_pf m r j v K = K (q_up m r j v) := rfl
theorem x_lt (x : Int) (K : Int → q_Res) : q_lt x K = K x := rfl
theorem x_fi (m : q_Mem) (c : Int) (n : Nat) (v : Int) (K : q_Mem → q_Res) : q_fi m c n v K = K (q_fill m c n v) := rfl
theorem x_rz0 (m : q_Mem) : q_rz 0 m = some (0, m) := rfl
theorem x_rz1 (m : q_Mem) : q_rz 1 m = some (1, m) := rfl
theorem x_rz {v : Int} (h : v = 0 ∨ v = 1) (m : q_Mem) : q_rz v m = some (v, m) := if_pos h
theorem x_rzi (c : Prop) [Decidable c] (m : q_Mem) : q_rz (if c then 1 else 0) m = some (if c then 1 else 0, m) := by
  split <;> rfl
theorem x_pz0 (m : q_Mem) (r j : Int) (K : q_Mem → q_Res) : q_pz m r j 0 K = K (q_up m r j 0) := rfl
theorem x_pz1 (m : q_Mem) (r j : Int) (K : q_Mem → q_Res) : q_pz m r j 1 K = K (q_up m r j 1) := rfl
theorem x_pz {v : Int} (h : v = 0 ∨ v = 1) (m : q_Mem) (r j : Int) (K : q_Mem → q_Res) : q_pz m r j v K = K (q_up m r j v) := if_pos h
theorem x_rd {k : Int} {n : Nat} (h0 : 0 ≤ k) (h1 : k < n) (hn : n ≤ 2147483648) (m : q_Mem) (c : Int) (K : Int → q_Res) : q_rd m c n k K = K (m c k) := by
  unfold q_rd
  rw [q_w_id (by omega) (by omega), if_pos ⟨h0, h1⟩]
theorem x_wr {k : Int} {n : Nat} (h0 : 0 ≤ k) (h1 : k < n) (hn : n ≤ 2147483648) (m : q_Mem) (c v : Int) (K : q_Mem → q_Res) : q_wr m c n k v K = K (q_up m c k v) := by
  unfold q_wr
  rw [q_w_id (by omega) (by omega), if_pos ⟨h0, h1⟩]
theorem x_wrz {k v : Int} {n : Nat} (h0 : 0 ≤ k) (h1 : k < n) (hn : n ≤ 2147483648) (hv : v = 0 ∨ v = 1) (m : q_Mem) (c : Int) (K : q_Mem → q_Res) : q_wrz m c n k v K = K (q_up m c k v) := by
  unfold q_wrz
  rw [q_w_id (by omega) (by omega), if_pos ⟨⟨h0, h1⟩, hv⟩]
theorem x_dv {x z : Int} (h0 : 0 ≤ x) (h1 : x < 2147483648) (h2 : 0 < z) (h3 : z < 2147483648) (K : Int → q_Res) : q_dv x z K = K (x / z) := by
  unfold q_dv
  rw [q_w_id (by omega) h1, q_w_id (by omega) h3, if_pos ⟨h0, h2⟩]
theorem x_md {x z : Int} (h0 : 0 ≤ x) (h1 : x < 2147483648) (h2 : 0 < z) (h3 : z < 2147483648) (K : Int → q_Res) : q_md x z K = K (x % z) := by
  unfold q_md
  rw [q_w_id (by omega) h1, q_w_id (by omega) h3, if_pos ⟨h0, h2⟩]
theorem x_one {l : List Int} {r : Int} (h : r ∈ l) (X : q_Res) : q_one l r X = X := if_pos h
theorem x_max {x z : Int} (h0 : -2147483648 ≤ x) (h1 : x < 2147483648) (h2 : -2147483648 ≤ z) (h3 : z < 2147483648) : q_max x z = max x z := by
  unfold q_max
  rw [q_w_id h0 h1, q_w_id h2 h3]
  omega
theorem x_min {x z : Int} (h0 : -2147483648 ≤ x) (h1 : x < 2147483648) (h2 : -2147483648 ≤ z) (h3 : z < 2147483648) : q_min x z = min x z := by
  unfold q_min
  rw [q_w_id h0 h1, q_w_id h2 h3]
  omega
theorem x_abs {x : Int} (h0 : -2147483648 ≤ x) (h1 : x < 2147483648) : q_abs x = max x (-x) := by
  unfold q_abs
  rw [q_w_id h0 h1]
  omega
theorem x_w0 : q_w 0 = 0 := rfl
theorem x_w1 : q_w 1 = 1 := rfl
theorem x_wi (c : Prop) [Decidable c] : q_w (if c then 1 else 0) = if c then 1 else 0 := by
  split <;> rfl
theorem x_i0 (c : Prop) [Decidable c] : ((if c then (1 : Int) else 0) = 0) = ¬ c := by
  apply propext
  split <;> simp_all
theorem x_i1 (c : Prop) [Decidable c] : ((if c then (1 : Int) else 0) = 1) = c := by
  apply propext
  split <;> simp_all
/-- two whole numbers within bounds: so is their product -/
theorem x_mul {x z a b : Int} (h1 : -a ≤ x) (h2 : x ≤ a) (h3 : -b ≤ z) (h4 : z ≤ b) : -(a * b) ≤ x * z ∧ x * z ≤ a * b := by
  have ha : 0 ≤ a := by omega
  have hb : 0 ≤ b := by omega
  have e1 : (x * z).natAbs ≤ (a * b).natAbs := by
    rw [Int.natAbs_mul, Int.natAbs_mul]
    exact Nat.mul_le_mul (by omega) (by omega)
  have e2 : 0 ≤ a * b := Int.mul_nonneg ha hb
  omega
theorem x_mulp {x z a b : Int} (h1 : 0 ≤ x) (h2 : x ≤ a) (h3 : 0 ≤ z) (h4 : z ≤ b) : 0 ≤ x * z ∧ x * z ≤ a * b := by
  have := x_mul (x := x) (z := z) (a := a) (b := b) (by omega) h2 (by omega) h4
  exact ⟨Int.mul_nonneg h1 h3, this.2⟩
/-! what comes out, with a property -/
def q_ok (e : q_Res) (Q : Int → q_Mem → Prop) : Prop := ∃ v m', e = some (v, m') ∧ Q v m'
theorem o_some {v : Int} {m : q_Mem} {Q : Int → q_Mem → Prop} (h : Q v m) : q_ok (some (v, m)) Q := ⟨v, m, rfl, h⟩
theorem o_rt {v : Int} {m : q_Mem} {Q : Int → q_Mem → Prop} (h : Q v m) : q_ok (q_rt v m) Q := ⟨v, m, rfl, h⟩
theorem o_bd {e : q_Res} {K : Int → q_Mem → q_Res} {P Q : Int → q_Mem → Prop} (h : q_ok e P) (k : ∀ v m', P v m' → q_ok (K v m') Q) : q_ok (q_bd e K) Q := by
  obtain ⟨v, m', rfl, hp⟩ := h
  exact k v m' hp
theorem o_mono {e : q_Res} {P Q : Int → q_Mem → Prop} (h : q_ok e P) (k : ∀ v m', P v m' → Q v m') : q_ok e Q := by
  obtain ⟨v, m', he, hp⟩ := h
  exact ⟨v, m', he, k v m' hp⟩
theorem o_if {c : Prop} [Decidable c] {A B : q_Res} {Q : Int → q_Mem → Prop} (h1 : c → q_ok A Q) (h2 : ¬ c → q_ok B Q) : q_ok (if c then A else B) Q := by
  split
  · exact h1 (by assumption)
  · exact h2 (by assumption)
/-- a loop that counts up to e -/
theorem o_up {σ : Type} (g : Nat → Int → σ → q_Res) (I : Int → σ → Prop) (Q : Int → q_Mem → Prop) (e : Int) (hs : ∀ n k s, k < e → I k s → (∀ s', I (k + 1) s' → q_ok (g n (k + 1) s') Q) → q_ok (g (n + 1) k s) Q) (hx : ∀ n s, I e s → q_ok (g (n + 1) e s) Q) :
    ∀ (d n : Nat) (k : Int) (s : σ), k + d = e → I k s → q_ok (g (n + d + 1) k s) Q := by
  intro d
  induction d with
  | zero =>
    intro n k s hk hi
    have : k = e := by omega
    subst this
    exact hx n s hi
  | succ d ih =>
    intro n k s hk hi
    exact hs (n + d + 1) k s (by omega) hi (fun s' hi' => ih n (k + 1) s' (by omega) hi')
theorem o_upF {σ : Type} (g : Nat → Int → σ → q_Res) (I : Int → σ → Prop) (Q : Int → q_Mem → Prop) {k e : Int} {s : σ} (h0 : k ≤ e) (h1 : e - k < 20000) (hi : I k s) (hs : ∀ n k s, k < e → I k s → (∀ s', I (k + 1) s' → q_ok (g n (k + 1) s') Q) → q_ok (g (n + 1) k s) Q) (hx : ∀ n s, I e s → q_ok (g (n + 1) e s) Q) : q_ok (g q_F k s) Q := by
  have hF : q_F = (20000 - ((e - k).toNat + 1)) + (e - k).toNat + 1 := by
    show (20000 : Nat) = _
    omega
  rw [hF]
  exact o_up g I Q e hs hx (e - k).toNat _ k s (by omega) hi
