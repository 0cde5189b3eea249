/-! THE PARSER: an onto line, in both -/
section ontol
variable {T : Int → Int} {n t bk V d k a b w W : Int} {f e : Int → Int} {l l' mc mm mc' mm' : q_Mem}
theorem m_commonL (m : q_Mem) : ∀ (y : Nat) (nf : Nat) (x : Int), y < nf → y ≤ 10000 → 0 ≤ x → x ≤ 10000 → ∃ g, f_Mod_common_l10 nf x y m = some (g, m) := by
  intro y
  induction y using Nat.strongRecOn with
  | _ y ih =>
    intro nf x hnf hy x0 x1
    obtain ⟨n', rfl⟩ : ∃ n', nf = n' + 1 := ⟨nf - 1, by omega⟩
    show ∃ g, f_Mod_common_b10 (f_Mod_common_l10 n') x y m = some (g, m)
    unfold f_Mod_common_b10
    rw [q_w_id (x := (y : Int)) (by omega) (by omega)]
    by_cases c : (y : Int) = 0
    · exact ⟨x, by rw [if_pos c, x_rt]⟩
    · have h1 : 0 ≤ x % (y : Int) := Int.emod_nonneg _ c
      have h2 : x % (y : Int) < y := Int.emod_lt_of_pos _ (by omega)
      obtain ⟨g, hg⟩ := ih (x % (y : Int)).toNat (by omega) n' y (by omega) (by omega) (by omega) (by omega)
      rw [show (((x % (y : Int)).toNat : Nat) : Int) = x % (y : Int) by omega] at hg
      exact ⟨g, by rw [if_neg c, x_md x0 (by omega) (by omega) (by omega)]; exact hg⟩
theorem m_commonT {x y : Int} (hx : -9999 ≤ x ∧ x ≤ 9999) (hy : -9999 ≤ y ∧ y ≤ 9999) (m : q_Mem) : ∃ g, f_Mod_common x y m = some (g, m) := by
  unfold f_Mod_common
  rw [m_size (by omega), x_bd, m_size (by omega), x_bd]
  obtain ⟨g, hg⟩ := m_commonL m (max y (-y)).toNat q_F (max x (-x)) (by unfold q_F; omega) (by omega) (by omega) (by omega)
  rw [show (((max y (-y)).toNat : Nat) : Int) = max y (-y) by omega] at hg
  exact ⟨g, hg⟩
end ontol
