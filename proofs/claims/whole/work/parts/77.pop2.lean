/-! the sum of eight bytes -/
theorem n_t1 {a Y : Nat} (h : a < 256) : (a + 256 * Y) / 256 = Y := by omega
theorem n_t2 {A B C D : Nat} (hA : A < 65536) : (A + 65536 * B + 4294967296 * C + 281474976710656 * D) / 65536 = B + 65536 * C + 4294967296 * D := by omega
theorem n_t3 {E G : Nat} (hE : E < 4294967296) : (E + 4294967296 * G) / 4294967296 = G := by omega
theorem n_t4 {a b c d e f g h : Nat} (hs : a + b + c + d ≤ 100) : (a + 256 * e + (b + 256 * f) + 65536 * (b + 256 * f + (c + 256 * g)) + (c + 256 * g + (d + 256 * h) + 65536 * (d + 256 * h)) + 4294967296 * (c + 256 * g + (d + 256 * h) + 65536 * (d + 256 * h))) % 128 = a + b + c + d := by omega
theorem n_i4 (a b c d e f g h : Nat) : (a + 256 * (b + 256 * (c + 256 * (d + 256 * (e + 256 * (f + 256 * (g + 256 * h))))))) + (b + 256 * (c + 256 * (d + 256 * (e + 256 * (f + 256 * (g + 256 * h)))))) = (((a + b) + 256 * (b + c)) + 65536 * ((c + d) + 256 * (d + e)) + 4294967296 * ((e + f) + 256 * (f + g)) + 281474976710656 * ((g + h) + 256 * h)) := by omega
theorem n_i5 (A B C D : Nat) : (A + 65536 * B + 4294967296 * C + 281474976710656 * D) + (B + 65536 * C + 4294967296 * D) = A + B + 65536 * (B + C) + 4294967296 * (C + D + 65536 * D) := by omega
theorem n_b4 {A B C D : Nat} (hA : A < 10000) (hB : B < 10000) (hC : C < 10000) (hD : D < 10000) : (A + 65536 * B + 4294967296 * C + 281474976710656 * D) < 2 ^ 63 ∧ A + B + 65536 * (B + C) + 4294967296 * (C + D + 65536 * D) < 2 ^ 63 ∧ A + B + 65536 * (B + C) + (C + D + 65536 * D) + 4294967296 * (C + D + 65536 * D) < 2 ^ 63 ∧ A + B + 65536 * (B + C) < 4294967296 := by omega
theorem n_st {x k y z : Nat} (h : x / k = y) (h' : x + y = z) : x + x / k = z := by
  rw [h]
  exact h'
theorem n_as (a b c d e f g h : Nat) : a + b + (c + d) + (e + f) + (g + h) = a + (b + (c + (d + (e + (f + (g + h)))))) := by omega
theorem n_sum {a b c d e f g h : Nat} (ha : a ≤ 8) (hb : b ≤ 8) (hc : c ≤ 8) (hd : d ≤ 8) (he : e ≤ 8) (hf : f ≤ 8) (hg : g ≤ 8) (hh : h ≤ 8) : ∃ x4 x5 x6, (a + 256 * (b + 256 * (c + 256 * (d + 256 * (e + 256 * (f + 256 * (g + 256 * h))))))) + (a + 256 * (b + 256 * (c + 256 * (d + 256 * (e + 256 * (f + 256 * (g + 256 * h))))))) / 256 = x4 ∧ x4 + x4 / 65536 = x5 ∧ x5 + x5 / 4294967296 = x6 ∧ x4 < 2 ^ 63 ∧ x5 < 2 ^ 63 ∧ x6 < 2 ^ 63 ∧ x6 % 128 = a + (b + (c + (d + (e + (f + (g + h)))))) := by
  have hA : ((a + b) + 256 * (b + c)) < 10000 := by omega
  have hB : ((c + d) + 256 * (d + e)) < 10000 := by clear hA; omega
  have hC : ((e + f) + 256 * (f + g)) < 10000 := by clear hA hB; omega
  have hD : ((g + h) + 256 * h) < 10000 := by clear hA hB hC; omega
  have h256 : a < 256 := by clear hA hB hC hD; omega
  have h100 : a + b + (c + d) + (e + f) + (g + h) ≤ 100 := by clear hA hB hC hD; omega
  have hbd := n_b4 hA hB hC hD
  refine ⟨(((a + b) + 256 * (b + c)) + 65536 * ((c + d) + 256 * (d + e)) + 4294967296 * ((e + f) + 256 * (f + g)) + 281474976710656 * ((g + h) + 256 * h)), (((a + b) + 256 * (b + c)) + ((c + d) + 256 * (d + e)) + 65536 * (((c + d) + 256 * (d + e)) + ((e + f) + 256 * (f + g))) + 4294967296 * (((e + f) + 256 * (f + g)) + ((g + h) + 256 * h) + 65536 * ((g + h) + 256 * h))), (((a + b) + 256 * (b + c)) + ((c + d) + 256 * (d + e)) + 65536 * (((c + d) + 256 * (d + e)) + ((e + f) + 256 * (f + g))) + (((e + f) + 256 * (f + g)) + ((g + h) + 256 * h) + 65536 * ((g + h) + 256 * h)) + 4294967296 * (((e + f) + 256 * (f + g)) + ((g + h) + 256 * h) + 65536 * ((g + h) + 256 * h))), ?_, ?_, ?_, hbd.1, hbd.2.1, hbd.2.2.1, ?_⟩
  · exact n_st (n_t1 h256) (n_i4 a b c d e f g h)
  · exact n_st (n_t2 (Nat.lt_trans hA (by decide))) (n_i5 _ _ _ _)
  · exact n_st (n_t3 hbd.2.2.2) (Nat.add_right_comm _ _ _)
  · exact (n_t4 (a := a + b) (b := c + d) (c := e + f) (d := g + h) (e := b + c) (f := d + e) (g := f + g) (h := h) h100).trans (n_as a b c d e f g h)
