/-! Long.bitCount counts bits -/
def n_fs (q : Nat) (f : Nat → Nat) (N : Nat) : Nat → Nat
  | 0 => 0
  | n + 1 => f (N % q) + q * n_fs q f (N / q) n
def n_rep (q u : Nat) : Nat → Nat
  | 0 => 0
  | n + 1 => u + q * n_rep q u n
theorem n_and (W : Nat) (N M : Nat) : N &&& M = ((N % 2 ^ W) &&& (M % 2 ^ W)) + 2 ^ W * ((N / 2 ^ W) &&& (M / 2 ^ W)) := by
  rw [← Nat.and_mod_two_pow, ← Nat.and_div_two_pow, Nat.mod_add_div]
theorem n_and_rep (W : Nat) {u : Nat} (hu : u < 2 ^ W) : ∀ n N : Nat, N &&& n_rep (2 ^ W) u n = n_fs (2 ^ W) (fun v => v &&& u) N n := by
  intro n
  induction n with
  | zero => intro N; exact Nat.and_zero N
  | succ n ih =>
    intro N
    show N &&& (u + 2 ^ W * n_rep (2 ^ W) u n) = ((N % 2 ^ W) &&& u) + 2 ^ W * n_fs (2 ^ W) (fun v => v &&& u) (N / 2 ^ W) n
    rw [n_and W, Nat.add_mul_mod_self_left, Nat.mod_eq_of_lt hu, Nat.add_mul_div_left _ _ (Nat.two_pow_pos W), Nat.div_eq_of_lt hu, Nat.zero_add, ih]
theorem n_3 (v : Nat) : v &&& 3 = v % 4 := Nat.and_two_pow_sub_one_eq_mod v 2
theorem n_15 (v : Nat) : v &&& 15 = v % 16 := Nat.and_two_pow_sub_one_eq_mod v 4
theorem n_127 (v : Nat) : v &&& 127 = v % 128 := Nat.and_two_pow_sub_one_eq_mod v 7
def n_p (v : Nat) : Nat := v % 2 + v / 2
def n_g (v : Nat) : Nat := n_p (v % 4) + n_p (v / 4)
def n_h (v : Nat) : Nat := n_g (v % 16) + n_g (v / 16)
theorem n_p_le {v : Nat} (h : v < 4) : n_p v ≤ 2 := by unfold n_p; omega
theorem n_g_le {v : Nat} (h : v < 16) : n_g v ≤ 4 := by
  unfold n_g
  have a := n_p_le (v := v % 4) (by omega)
  have b := n_p_le (v := v / 4) (by omega)
  omega
theorem n_h_le {v : Nat} (h : v < 256) : n_h v ≤ 8 := by
  unfold n_h
  have a := n_g_le (v := v % 16) (by omega)
  have b := n_g_le (v := v / 16) (by omega)
  omega
theorem n_s1 : ∀ n N : Nat, N < 4 ^ n → n_fs 4 (fun v => v &&& 1) (N / 2) n + n_fs 4 n_p N n = N := by
  intro n
  induction n with
  | zero => intro N h; simp at h; subst h; rfl
  | succ n ih =>
    intro N h
    have a := ih (N / 4) (by rw [Nat.pow_succ] at h; omega)
    show ((N / 2 % 4) &&& 1) + 4 * n_fs 4 (fun v => v &&& 1) (N / 2 / 4) n + (n_p (N % 4) + 4 * n_fs 4 n_p (N / 4) n) = N
    rw [Nat.and_one_is_mod, show N / 2 / 4 = N / 4 / 2 by omega]
    unfold n_p at *
    omega
theorem n_s2 : ∀ n N : Nat, n_fs 16 (fun v => v &&& 3) (n_fs 4 n_p N (2 * n)) n + n_fs 16 (fun v => v &&& 3) (n_fs 4 n_p N (2 * n) / 4) n = n_fs 16 n_g N n := by
  intro n
  induction n with
  | zero => intro N; rfl
  | succ n ih =>
    intro N
    have e : n_fs 4 n_p N (2 * (n + 1)) = n_p (N % 4) + 4 * (n_p (N / 4 % 4) + 4 * n_fs 4 n_p (N / 16) (2 * n)) := by
      show n_p (N % 4) + 4 * (n_p (N / 4 % 4) + 4 * n_fs 4 n_p (N / 4 / 4) (2 * n)) = _
      rw [show N / 4 / 4 = N / 16 by omega]
    have a := ih (N / 16)
    have b1 := n_p_le (v := N % 4) (by omega)
    have b2 := n_p_le (v := N / 4 % 4) (by omega)
    rw [e]
    show ((_ % 16) &&& 3) + 16 * n_fs 16 (fun v => v &&& 3) (_ / 16) n + (((_ / 4 % 16) &&& 3) + 16 * n_fs 16 (fun v => v &&& 3) (_ / 4 / 16) n) = (n_p (N % 16 % 4) + n_p (N % 16 / 4)) + 16 * n_fs 16 n_g (N / 16) n
    rw [n_3, n_3, show N % 16 % 4 = N % 4 by omega, show N % 16 / 4 = N / 4 % 4 by omega]
    generalize n_p (N % 4) = u at *
    generalize n_p (N / 4 % 4) = v at *
    generalize n_fs 4 n_p (N / 16) (2 * n) = M at *
    rw [show (u + 4 * (v + 4 * M)) / 16 = M by omega, show (u + 4 * (v + 4 * M)) / 4 / 16 = M / 4 by omega, show (u + 4 * (v + 4 * M)) % 16 % 4 = u by omega, show (u + 4 * (v + 4 * M)) / 4 % 16 % 4 = v by omega]
    omega
theorem n_s3 : ∀ n N : Nat, n_fs 256 (fun v => v &&& 15) (n_fs 16 n_g N (2 * n) + n_fs 16 n_g N (2 * n) / 16) n = n_fs 256 n_h N n := by
  intro n
  induction n with
  | zero => intro N; rfl
  | succ n ih =>
    intro N
    have e : n_fs 16 n_g N (2 * (n + 1)) = n_g (N % 16) + 16 * (n_g (N / 16 % 16) + 16 * n_fs 16 n_g (N / 256) (2 * n)) := by
      show n_g (N % 16) + 16 * (n_g (N / 16 % 16) + 16 * n_fs 16 n_g (N / 16 / 16) (2 * n)) = _
      rw [show N / 16 / 16 = N / 256 by omega]
    have a := ih (N / 256)
    have b1 := n_g_le (v := N % 16) (by omega)
    have b2 := n_g_le (v := N / 16 % 16) (by omega)
    have b3 : n_fs 16 n_g (N / 256) (2 * n) % 16 ≤ 4 := by
      cases n with
      | zero => show 0 % 16 ≤ 4; decide
      | succ n =>
        have b4 := n_g_le (v := N / 256 % 16) (by omega)
        have e4 : n_fs 16 n_g (N / 256) (2 * (n + 1)) = n_g (N / 256 % 16) + 16 * n_fs 16 n_g (N / 256 / 16) (2 * n + 1) := rfl
        rw [e4]
        omega
    rw [e]
    show ((_ % 256) &&& 15) + 256 * n_fs 256 (fun v => v &&& 15) (_ / 256) n = (n_g (N % 256 % 16) + n_g (N % 256 / 16)) + 256 * n_fs 256 n_h (N / 256) n
    rw [n_15, show N % 256 % 16 = N % 16 by omega, show N % 256 / 16 = N / 16 % 16 by omega, ← a]
    generalize n_g (N % 16) = u at *
    generalize n_g (N / 16 % 16) = v at *
    generalize n_fs 16 n_g (N / 256) (2 * n) = M at *
    rw [show (u + 16 * (v + 16 * M) + (u + 16 * (v + 16 * M)) / 16) / 256 = M + M / 16 by omega, show (u + 16 * (v + 16 * M) + (u + 16 * (v + 16 * M)) / 16) % 256 % 16 = u + v by omega]
/-- so many of the low bits are set -/
def n_c (N : Nat) : Nat → Nat
  | 0 => 0
  | n + 1 => N % 2 + n_c (N / 2) n
theorem n_c_add (N : Nat) : ∀ n k : Nat, n_c N (n + k) = n_c N n + n_c (N / 2 ^ n) k := by
  intro n
  induction n generalizing N with
  | zero => intro k; rw [Nat.zero_add, Nat.pow_zero, Nat.div_one]; show _ = 0 + _; omega
  | succ n ih =>
    intro k
    rw [show n + 1 + k = (n + k) + 1 by omega]
    show N % 2 + n_c (N / 2) (n + k) = N % 2 + n_c (N / 2) n + _
    rw [ih (N / 2) k, Nat.div_div_eq_div_mul, Nat.pow_succ, Nat.mul_comm 2]
    omega
theorem n_c_8 : ∀ v : Fin 256, n_c v.val 8 = n_h v.val := by decide +kernel
theorem n_c_low : ∀ n N : Nat, n_c (N % 2 ^ n) n = n_c N n := by
  intro n
  induction n with
  | zero => intro N; rfl
  | succ n ih =>
    intro N
    show N % 2 ^ (n + 1) % 2 + n_c (N % 2 ^ (n + 1) / 2) n = N % 2 + n_c (N / 2) n
    rw [Nat.pow_succ, Nat.mul_comm, Nat.mod_mul_right_mod, Nat.mod_mul_right_div_self, ih]
theorem n_c_mod (N : Nat) : n_c N 8 = n_h (N % 256) := by
  have h := n_c_8 ⟨N % 256, Nat.mod_lt _ (by decide)⟩
  dsimp only at h
  rw [← h]
  exact (n_c_low 8 N).symm
theorem n_c_64 (N : Nat) : n_c N 64 = n_h (N % 256) + (n_h (N / 256 % 256) + (n_h (N / 256 / 256 % 256) + (n_h (N / 256 / 256 / 256 % 256) + (n_h (N / 256 / 256 / 256 / 256 % 256) + (n_h (N / 256 / 256 / 256 / 256 / 256 % 256) + (n_h (N / 256 / 256 / 256 / 256 / 256 / 256 % 256) + n_h (N / 256 / 256 / 256 / 256 / 256 / 256 / 256 % 256))))))) := by
  rw [show (64 : Nat) = 8 + (8 + (8 + (8 + (8 + (8 + (8 + 8)))))) from rfl, n_c_add, n_c_add, n_c_add, n_c_add, n_c_add, n_c_add, n_c_add]
  rw [show (2 : Nat) ^ 8 = 256 from rfl, n_c_mod, n_c_mod, n_c_mod, n_c_mod, n_c_mod, n_c_mod, n_c_mod, n_c_mod]
