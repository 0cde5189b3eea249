/-! QUESTION: hangs -/
def h_up {σ : Type} (F : Int → σ → σ) (s : σ) : Nat → σ
  | 0 => s
  | n + 1 => F n (h_up F s n)
theorem h_up_s {σ : Type} (F : Int → σ → σ) (s : σ) {k : Int} (h : 0 ≤ k) : h_up F s (k + 1).toNat = F k (h_up F s k.toNat) := by
  rw [show (k + 1).toNat = k.toNat + 1 by omega]
  show F (k.toNat : Int) _ = _
  rw [Int.toNat_of_nonneg h]
/-- how many are met, which, in which order -/
abbrev h_T : Type := Int × (Int → Int) × (Int → Int)
def h_S (l : q_Mem) (p x : Int) (s : h_T) : h_T := if g_rr l p x = -1 then s else if s.2.1 (g_rr l p x) = 0 then (s.1 + 1, (fun q => if q = g_rr l p x then 1 else s.2.1 q), (fun i => if i = s.1 then g_rr l p x else s.2.2 i)) else s
def h_F (l : q_Mem) (p : Int) (s : h_T) : h_T := h_up (fun x s => h_S l p x s) s (l 0 5).toNat
def h_O (l : q_Mem) : Nat → Int → h_T → h_T
  | 0, _, s => s
  | d + 1, k, s => if s.1 ≤ k then s else h_O l d (k + 1) (h_F l (s.2.2 k) s)
def h_ok (l : q_Mem) (s : h_T) : Prop := (∀ q, s.2.1 q = 0 ∨ (s.2.1 q = 1 ∧ g_pt l q)) ∧ s.1 = g_cnt (fun q => s.2.1 q != 0) 100 ∧ ∀ i, 0 ≤ i → i < s.1 → g_pt l (s.2.2 i)
def h_R (z u : Int) (m : q_Mem) (s : h_T) : Prop := (∀ q, 0 ≤ q → q < 100 → m z q = s.2.1 q) ∧ ∀ i, 0 ≤ i → i < s.1 → m u i = s.2.2 i
def h_0 : h_T := (0, (fun _ => 0), (fun _ => 0))
section hangs
variable {l m : q_Mem} {o : Int → Int} {t : Int}
theorem h_ok_0 : h_ok l h_0 := by
  refine ⟨fun _ => Or.inl rfl, ?_, fun i i0 i1 => absurd i1 (by show ¬ i < 0; omega)⟩
  exact (g_cnt_zero.mpr fun k _ _ => rfl).symm
theorem h_ok_rg {s : h_T} (h : h_ok l s) : 0 ≤ s.1 ∧ s.1 ≤ 100 := by
  rw [h.2.1]
  exact g_cnt_rg _ 100
theorem h_ok_S (hw : g_lw l) {p x : Int} {s : h_T} (h : h_ok l s) : h_ok l (h_S l p x s) ∧ (g_rr l p x ≠ -1 → s.2.1 (g_rr l p x) = 0 → s.1 < 100) := by
  unfold h_S
  by_cases c : g_rr l p x = -1
  · rw [if_pos c]
    exact ⟨h, fun hn => absurd c hn⟩
  · rw [if_neg c]
    have hq := g_rr_pt hw c
    by_cases c2 : s.2.1 (g_rr l p x) = 0
    · rw [if_pos c2]
      obtain ⟨h1, h2, h3⟩ := h
      have hf : g_cnt (fun q' => (if q' = g_rr l p x then 1 else s.2.1 q') != 0) 100 = g_cnt (fun q => s.2.1 q != 0) 100 + 1 := g_cnt_flip (q := g_rr l p x) hq.1.1 hq.1.2 (fun k _ _ hk => by rw [if_neg hk]) (by simp [c2]) (by simp)
      have hr' := g_cnt_rg (fun q' => (if q' = g_rr l p x then (1 : Int) else s.2.1 q') != 0) 100
      refine ⟨⟨fun q' => ?_, ?_, fun i i0 i1 => ?_⟩, fun _ _ => by omega⟩
      · show (if q' = g_rr l p x then (1 : Int) else s.2.1 q') = 0 ∨ ((if q' = g_rr l p x then (1 : Int) else s.2.1 q') = 1 ∧ g_pt l q')
        by_cases cq : q' = g_rr l p x
        · rw [if_pos cq, cq]; exact Or.inr ⟨rfl, hq⟩
        · rw [if_neg cq]; exact h1 q'
      · show s.1 + 1 = g_cnt (fun q' => (if q' = g_rr l p x then 1 else s.2.1 q') != 0) 100
        rw [hf, h2]
      · show g_pt l (if i = s.1 then g_rr l p x else s.2.2 i)
        replace i1 : i < s.1 + 1 := i1
        by_cases ci : i = s.1
        · rw [if_pos ci]; exact hq
        · rw [if_neg ci]; exact h3 i i0 (by omega)
    · rw [if_neg c2]
      exact ⟨h, fun _ hz => absurd hz c2⟩
theorem c_follow (ht : t ∈ q_Lp) (hl : g_CL m t l) (hw : g_lw l) {p : Int} (hp : 0 ≤ p ∧ p < 100) {s : h_T} (hs : h_ok l s) (hR : h_R 58 59 m s) : q_ok (f_Web_follow t p s.1 m) (fun r m' => (∀ c, c ≠ 58 → c ≠ 59 → m' c = m c) ∧ h_ok l (h_F l p s) ∧ h_R 58 59 m' (h_F l p s) ∧ r = (h_F l p s).1) := by
  have h5 := hw.2.2.2.2.1
  unfold f_Web_follow h_F
  refine o_upF (fun n k (z : Int × q_Mem) => f_Web_follow_l6 n t p z.1 k z.2) (fun k z => 0 ≤ k ∧ (∀ c, c ≠ 58 → c ≠ 59 → z.2 c = m c) ∧ h_ok l (h_up (fun x s => h_S l p x s) s k.toNat) ∧ h_R 58 59 z.2 (h_up (fun x s => h_S l p x s) s k.toNat) ∧ z.1 = (h_up (fun x s => h_S l p x s) s k.toNat).1) _ (k := 0) (e := l 0 5) (s := (s.1, m)) (by omega) (by omega) ⟨by omega, fun _ _ _ => rfl, hs, hR, rfl⟩ ?_ ?_
  · intro n k z hk ⟨k0, f1, ok1, r1, e1⟩ hn
    obtain ⟨a, m1⟩ := z
    replace f1 : ∀ c, c ≠ 58 → c ≠ 59 → m1 c = m c := f1
    replace r1 : h_R 58 59 m1 (h_up (fun x s => h_S l p x s) s k.toNat) := r1
    replace e1 : a = (h_up (fun x s => h_S l p x s) s k.toNat).1 := e1
    have es := h_up_s (fun x s => h_S l p x s) s k0
    revert ok1 r1 e1 es
    generalize h_up (fun x s => h_S l p x s) s k.toNat = S
    intro ok1 r1 e1 es
    have hl1 : g_CL m1 t l := g_CL_of ht hl fun c hc => f1 c (by omega) (by omega)
    have hr := g_mv_rg (l 0 0) (l 0 1) p (-l 2 k) (-l 3 k) hw.1.2 hw.2.1.2
    have hr' : -1 ≤ g_rr l p k ∧ g_rr l p k < 100 := hr
    have hS := h_ok_S hw (p := p) (x := k) ok1
    have hrg := h_ok_rg ok1
    show q_ok (f_Web_follow_b6 (f_Web_follow_l6 n) t p a k m1) _
    unfold f_Web_follow_b6 f_Web_follow_b67
    rw [hl1.1, q_w_id (x := l 0 5) (by omega) (by omega), q_w_id (x := k) (by omega) (by omega), if_neg (by omega), c_reader hl1 hw hp ⟨k0, hk⟩, x_bd, q_w_id (x := g_rr l p k) (by omega) (by omega)]
    by_cases c : g_rr l p k = -1
    · rw [if_pos c]
      refine hn (a, m1) ⟨by omega, f1, ?_⟩
      rw [es]
      show h_ok l (h_S l p k S) ∧ h_R 58 59 m1 (h_S l p k S) ∧ a = (h_S l p k S).1
      unfold h_S
      rw [if_pos c]
      exact ⟨ok1, r1, e1⟩
    · have hq := (g_rr_pt hw c).1
      have hz := ok1.1 (g_rr l p k)
      rw [if_neg c, x_rd (n := 100) hq.1 hq.2 (by decide), r1.1 _ hq.1 hq.2, q_w_id (x := S.2.1 (g_rr l p k)) (by omega) (by omega)]
      by_cases c2 : S.2.1 (g_rr l p k) = 0
      · have hlt := hS.2 c c2
        rw [if_pos c2, q_w_id (x := a) (by omega) (by omega), if_neg (by omega), x_wr (n := 100) hq.1 hq.2 (by decide), x_wr (n := 100) (by omega) (by omega) (by decide)]
        refine hn (a + 1, _) ⟨by omega, fun c c1 c2 => ?_, ?_⟩
        · show q_up (q_up m1 58 (g_rr l p k) 1) 59 a (g_rr l p k) c = m c
          rw [q_up_f c2, q_up_f c1]
          exact f1 c c1 c2
        rw [es]
        refine ⟨hS.1, ?_⟩
        show h_R 58 59 (q_up (q_up m1 58 (g_rr l p k) 1) 59 a (g_rr l p k)) (h_S l p k S) ∧ a + 1 = (h_S l p k S).1
        unfold h_S
        rw [if_neg c, if_pos c2]
        refine ⟨⟨fun q q0 q1 => ?_, fun i i0 i1 => ?_⟩, by rw [e1]⟩
        · show q_up (q_up m1 58 (g_rr l p k) 1) 59 a (g_rr l p k) 58 q = if q = g_rr l p k then 1 else S.2.1 q
          rw [q_up_f (by decide)]
          by_cases cq : q = g_rr l p k
          · rw [if_pos cq, cq, q_up_s]
          · rw [if_neg cq, q_up_i cq]; exact r1.1 q q0 q1
        · show q_up (q_up m1 58 (g_rr l p k) 1) 59 a (g_rr l p k) 59 i = if i = S.1 then g_rr l p k else S.2.2 i
          replace i1 : i < S.1 + 1 := i1
          by_cases ci : i = S.1
          · rw [if_pos ci, ci, ← e1, q_up_s]
          · rw [if_neg ci, q_up_i (by omega), q_up_f (by decide)]; exact r1.2 i i0 (by omega)
      · rw [if_neg c2]
        refine hn (a, m1) ⟨by omega, f1, ?_⟩
        rw [es]
        show h_ok l (h_S l p k S) ∧ h_R 58 59 m1 (h_S l p k S) ∧ a = (h_S l p k S).1
        unfold h_S
        rw [if_neg c, if_neg c2]
        exact ⟨ok1, r1, e1⟩
  · intro n z ⟨_, f1, ok1, r1, e1⟩
    have hl1 : g_CL z.2 t l := g_CL_of ht hl fun c hc => f1 c (by omega) (by omega)
    show q_ok (f_Web_follow_b6 (f_Web_follow_l6 n) t p z.1 (l 0 5) z.2) _
    unfold f_Web_follow_b6
    rw [hl1.1, if_pos (Int.le_refl _)]
    exact o_rt ⟨f1, ok1, r1, e1⟩
theorem m_meet (hm : g_ML m l) (hw : g_lw l) {p : Int} (hp : 0 ≤ p ∧ p < 100) {s : h_T} (hs : h_ok l s) (hR : h_R 108 109 m s) : q_ok (f_Mod_meetReaders p s.1 m) (fun r m' => (∀ c, c ≠ 108 → c ≠ 109 → m' c = m c) ∧ h_ok l (h_F l p s) ∧ h_R 108 109 m' (h_F l p s) ∧ r = (h_F l p s).1) := by
  have h5 := hw.2.2.2.2.1
  unfold f_Mod_meetReaders h_F
  refine o_upF (fun n k (z : Int × q_Mem) => f_Mod_meetReaders_l5 n p z.1 k z.2) (fun k z => 0 ≤ k ∧ (∀ c, c ≠ 108 → c ≠ 109 → z.2 c = m c) ∧ h_ok l (h_up (fun x s => h_S l p x s) s k.toNat) ∧ h_R 108 109 z.2 (h_up (fun x s => h_S l p x s) s k.toNat) ∧ z.1 = (h_up (fun x s => h_S l p x s) s k.toNat).1) _ (k := 0) (e := l 0 5) (s := (s.1, m)) (by omega) (by omega) ⟨by omega, fun _ _ _ => rfl, hs, hR, rfl⟩ ?_ ?_
  · intro n k z hk ⟨k0, f1, ok1, r1, e1⟩ hn
    obtain ⟨a, m1⟩ := z
    replace f1 : ∀ c, c ≠ 108 → c ≠ 109 → m1 c = m c := f1
    replace r1 : h_R 108 109 m1 (h_up (fun x s => h_S l p x s) s k.toNat) := r1
    replace e1 : a = (h_up (fun x s => h_S l p x s) s k.toNat).1 := e1
    have es := h_up_s (fun x s => h_S l p x s) s k0
    revert ok1 r1 e1 es
    generalize h_up (fun x s => h_S l p x s) s k.toNat = S
    intro ok1 r1 e1 es
    have hm1 : g_ML m1 l := g_ML_of hm (by rw [f1 81 (by decide) (by decide)]) fun c _ _ => f1 c (by omega) (by omega)
    have hr := g_mv_rg (l 0 0) (l 0 1) p (-l 2 k) (-l 3 k) hw.1.2 hw.2.1.2
    have hr' : -1 ≤ g_rr l p k ∧ g_rr l p k < 100 := hr
    have hS := h_ok_S hw (p := p) (x := k) ok1
    have hrg := h_ok_rg ok1
    show q_ok (f_Mod_meetReaders_b5 (f_Mod_meetReaders_l5 n) p a k m1) _
    unfold f_Mod_meetReaders_b5 f_Mod_meetReaders_b60
    rw [m_offsets hm1, x_bd, q_w_id (x := l 0 5) (by omega) (by omega), q_w_id (x := k) (by omega) (by omega), if_neg (by omega), m_readerBy hm1 hw hp ⟨k0, hk⟩, x_bd, q_w_id (x := g_rr l p k) (by omega) (by omega)]
    by_cases c : g_rr l p k = -1
    · rw [if_pos (by omega)]
      refine hn (a, m1) ⟨by omega, f1, ?_⟩
      rw [es]
      show h_ok l (h_S l p k S) ∧ h_R 108 109 m1 (h_S l p k S) ∧ a = (h_S l p k S).1
      unfold h_S
      rw [if_pos c]
      exact ⟨ok1, r1, e1⟩
    · have hq := (g_rr_pt hw c).1
      have hz := ok1.1 (g_rr l p k)
      rw [if_neg (by omega), x_rd (n := 100) hq.1 hq.2 (by decide), r1.1 _ hq.1 hq.2, q_w_id (x := S.2.1 (g_rr l p k)) (by omega) (by omega)]
      by_cases c2 : S.2.1 (g_rr l p k) = 0
      · have hlt := hS.2 c c2
        rw [if_pos c2, x_wrz (n := 100) hq.1 hq.2 (by decide) (Or.inr rfl), x_wr (n := 100) (by omega) (by omega) (by decide)]
        refine hn (a + 1, _) ⟨by omega, fun c c1 c2 => ?_, ?_⟩
        · show q_up (q_up m1 108 (g_rr l p k) 1) 109 a (g_rr l p k) c = m c
          rw [q_up_f c2, q_up_f c1]
          exact f1 c c1 c2
        rw [es]
        refine ⟨hS.1, ?_⟩
        show h_R 108 109 (q_up (q_up m1 108 (g_rr l p k) 1) 109 a (g_rr l p k)) (h_S l p k S) ∧ a + 1 = (h_S l p k S).1
        unfold h_S
        rw [if_neg c, if_pos c2]
        refine ⟨⟨fun q q0 q1 => ?_, fun i i0 i1 => ?_⟩, by rw [e1]⟩
        · show q_up (q_up m1 108 (g_rr l p k) 1) 109 a (g_rr l p k) 108 q = if q = g_rr l p k then 1 else S.2.1 q
          rw [q_up_f (by decide)]
          by_cases cq : q = g_rr l p k
          · rw [if_pos cq, cq, q_up_s]
          · rw [if_neg cq, q_up_i cq]; exact r1.1 q q0 q1
        · show q_up (q_up m1 108 (g_rr l p k) 1) 109 a (g_rr l p k) 109 i = if i = S.1 then g_rr l p k else S.2.2 i
          replace i1 : i < S.1 + 1 := i1
          by_cases ci : i = S.1
          · rw [if_pos ci, ci, ← e1, q_up_s]
          · rw [if_neg ci, q_up_i (by omega), q_up_f (by decide)]; exact r1.2 i i0 (by omega)
      · rw [if_neg c2]
        refine hn (a, m1) ⟨by omega, f1, ?_⟩
        rw [es]
        show h_ok l (h_S l p k S) ∧ h_R 108 109 m1 (h_S l p k S) ∧ a = (h_S l p k S).1
        unfold h_S
        rw [if_neg c, if_neg c2]
        exact ⟨ok1, r1, e1⟩
  · intro n z ⟨_, f1, ok1, r1, e1⟩
    have hm1 : g_ML z.2 l := g_ML_of hm (by rw [f1 81 (by decide) (by decide)]) fun c _ _ => f1 c (by omega) (by omega)
    show q_ok (f_Mod_meetReaders_b5 (f_Mod_meetReaders_l5 n) p z.1 (l 0 5) z.2) _
    unfold f_Mod_meetReaders_b5
    rw [m_offsets hm1, x_bd, if_pos (Int.le_refl _)]
    exact o_rt ⟨f1, ok1, r1, e1⟩
theorem h_O_stop {d k : Int} {s : h_T} (hd : 0 < d) (h : s.1 ≤ k) : h_O l d.toNat k s = s := by
  rw [show d.toNat = (d.toNat - 1) + 1 by omega]
  exact if_pos h
theorem h_O_go {d k : Int} {s : h_T} (hd : 0 < d) (h : ¬ s.1 ≤ k) : h_O l d.toNat k s = h_O l (d - 1).toNat (k + 1) (h_F l (s.2.2 k) s) := by
  rw [show d.toNat = (d - 1).toNat + 1 by omega]
  exact if_neg h
theorem c_followers (ht : t ∈ q_Lp) (hl : g_CL m t l) (hw : g_lw l) {p : Int} (hp : g_pt l p) : q_ok (f_Web_followers t p m) (fun r m' => (∀ c, c ≠ 58 → c ≠ 59 → m' c = m c) ∧ r = (h_O l 101 0 (h_F l p h_0)).1) := by
  unfold f_Web_followers
  rw [x_fi]
  have f0 : ∀ c, c ≠ 58 → c ≠ 59 → q_fill m 58 100 0 c = m c := fun c c1 _ => q_fill_f c1
  have hl0 : g_CL (q_fill m 58 100 0) t l := g_CL_of ht hl fun c hc => f0 c (by omega) (by omega)
  have r0 : h_R 58 59 (q_fill m 58 100 0) h_0 := ⟨fun q q0 q1 => q_fill_in q0 q1, fun i i0 i1 => absurd i1 (by show ¬ i < 0; omega)⟩
  have hF := c_follow (s := h_0) ht hl0 hw hp.1 h_ok_0 r0
  rw [show h_0.1 = 0 from rfl] at hF
  refine o_bd hF fun v m1 ⟨f1, ok1, r1, e1⟩ => ?_
  refine o_upF (fun n k (z : Int × q_Mem) => f_Web_followers_l19 n t z.1 k z.2) (fun k z => 0 ≤ k ∧ (∀ c, c ≠ 58 → c ≠ 59 → z.2 c = m c) ∧ ∃ s, h_ok l s ∧ h_R 58 59 z.2 s ∧ z.1 = s.1 ∧ h_O l (101 - k).toNat k s = h_O l 101 0 (h_F l p h_0)) _ (k := 0) (e := 100) (s := (v, m1)) (by omega) (by omega) ⟨by omega, fun c c1 c2 => (f1 c c1 c2).trans (f0 c c1 c2), _, ok1, r1, e1, rfl⟩ ?_ ?_
  · intro n k z hk ⟨k0, f2, s, ok2, r2, e2, eO⟩ hn
    have hl2 : g_CL z.2 t l := g_CL_of ht hl fun c hc => f2 c (by omega) (by omega)
    have hrg := h_ok_rg ok2
    show q_ok (f_Web_followers_b19 (f_Web_followers_l19 n) t z.1 k z.2) _
    unfold f_Web_followers_b19
    rw [e2, q_w_id (x := k) (by omega) (by omega), q_w_id (x := s.1) (by omega) (by omega), if_neg (show ¬ 100 ≤ k by omega)]
    by_cases c : s.1 ≤ k
    · rw [if_pos c]
      rw [h_O_stop (by omega) c] at eO
      exact o_rt ⟨f2, by rw [← eO]⟩
    · rw [if_neg c, x_rd (n := 100) k0 (by omega) (by decide), r2.2 k k0 (by omega)]
      rw [h_O_go (by omega) c] at eO
      refine o_bd (c_follow ht hl2 hw (ok2.2.2 k k0 (by omega)).1 ok2 r2) fun v m3 ⟨f3, ok3, r3, e3⟩ => ?_
      refine hn (v, m3) ⟨by omega, fun c c1 c2 => (f3 c c1 c2).trans (f2 c c1 c2), _, ok3, r3, e3, ?_⟩
      rw [← eO, show 101 - (k + 1) = 101 - k - 1 by omega]
  · intro n z ⟨k0, f2, s, ok2, r2, e2, eO⟩
    have hrg := h_ok_rg ok2
    show q_ok (f_Web_followers_b19 (f_Web_followers_l19 n) t z.1 100 z.2) _
    unfold f_Web_followers_b19
    rw [if_pos (by decide)]
    rw [h_O_stop (by omega) (by omega)] at eO
    exact o_rt ⟨f2, by rw [← eO]; exact e2⟩
theorem m_hangs (hm : g_ML m l) (hw : g_lw l) {i j : Int} (hp : g_pt l (10 * i + j)) : q_ok (f_Mod_hangs_l13 q_F i j 0 m) (fun r m' => (∀ c, c ≠ 108 → c ≠ 109 → m' c = m c) ∧ r = (h_O l 101 0 (h_F l (10 * i + j) h_0)).1) := by
  refine o_upF (fun n k (z : q_Mem) => f_Mod_hangs_l13 n i j k z) (fun k z => 0 ≤ k ∧ (∀ c, c ≠ 108 → z c = m c) ∧ ∀ q, 0 ≤ q → q < k → z 108 q = 0) _ (k := 0) (e := 100) (s := m) (by omega) (by omega) ⟨by omega, fun _ _ => rfl, fun q q0 q1 => by omega⟩ ?_ ?_
  · intro n k z hk ⟨k0, f1, z1⟩ hn
    show q_ok (f_Mod_hangs_b13 (f_Mod_hangs_l13 n) i j k z) _
    unfold f_Mod_hangs_b13
    rw [q_w_id (x := k) (by omega) (by omega), if_neg (by omega), x_wrz (n := 100) k0 (by omega) (by decide) (Or.inl rfl)]
    refine hn _ ⟨by omega, fun c hc => by rw [q_up_f hc]; exact f1 c hc, fun q q0 q1 => ?_⟩
    by_cases cq : q = k
    · rw [cq, q_up_s]
    · rw [q_up_i cq]; exact z1 q q0 (by omega)
  · intro n z ⟨_, f0, z1⟩
    show q_ok (f_Mod_hangs_b13 (f_Mod_hangs_l13 n) i j 100 z) _
    unfold f_Mod_hangs_b13
    rw [if_pos (by decide)]
    have hm0 : g_ML z l := g_ML_of hm (by rw [f0 81 (by decide)]) fun c _ _ => f0 c (by omega)
    have r0 : h_R 108 109 z h_0 := ⟨fun q q0 q1 => z1 q q0 q1, fun i i0 i1 => absurd i1 (by show ¬ i < 0; omega)⟩
    have hF := m_meet (s := h_0) hm0 hw hp.1 h_ok_0 r0
    rw [show h_0.1 = 0 from rfl] at hF
    refine o_bd hF fun v m1 ⟨f1, ok1, r1, e1⟩ => ?_
    refine o_upF (fun n k (z : Int × q_Mem) => f_Mod_hangs_l47 n z.1 k z.2) (fun k z => 0 ≤ k ∧ (∀ c, c ≠ 108 → c ≠ 109 → z.2 c = m c) ∧ ∃ s, h_ok l s ∧ h_R 108 109 z.2 s ∧ z.1 = s.1 ∧ h_O l (101 - k).toNat k s = h_O l 101 0 (h_F l (10 * i + j) h_0)) _ (k := 0) (e := 100) (s := (v, m1)) (by omega) (by omega) ⟨by omega, fun c c1 c2 => (f1 c c1 c2).trans (f0 c c1), _, ok1, r1, e1, rfl⟩ ?_ ?_
    · intro n k z hk ⟨k0, f2, s, ok2, r2, e2, eO⟩ hn
      have hm2 : g_ML z.2 l := g_ML_of hm (by rw [f2 81 (by decide) (by decide)]) fun c _ _ => f2 c (by omega) (by omega)
      have hrg := h_ok_rg ok2
      show q_ok (f_Mod_hangs_b47 (f_Mod_hangs_l47 n) z.1 k z.2) _
      unfold f_Mod_hangs_b47
      rw [e2, q_w_id (x := k) (by omega) (by omega), q_w_id (x := s.1) (by omega) (by omega)]
      by_cases c : s.1 ≤ k
      · rw [if_pos c]
        rw [h_O_stop (by omega) c] at eO
        exact o_rt ⟨f2, by rw [← eO]⟩
      · rw [if_neg c, x_rd (n := 100) k0 (by omega) (by decide), r2.2 k k0 (by omega)]
        rw [h_O_go (by omega) c] at eO
        refine o_bd (m_meet hm2 hw (ok2.2.2 k k0 (by omega)).1 ok2 r2) fun v m3 ⟨f3, ok3, r3, e3⟩ => ?_
        refine hn (v, m3) ⟨by omega, fun c c1 c2 => (f3 c c1 c2).trans (f2 c c1 c2), _, ok3, r3, e3, ?_⟩
        rw [← eO, show 101 - (k + 1) = 101 - k - 1 by omega]
    · intro n z ⟨k0, f2, s, ok2, r2, e2, eO⟩
      have hrg := h_ok_rg ok2
      show q_ok (f_Mod_hangs_b47 (f_Mod_hangs_l47 n) z.1 100 z.2) _
      unfold f_Mod_hangs_b47
      rw [e2, q_w_id (x := s.1) (by omega) (by omega), if_pos (show s.1 ≤ q_w 100 from hrg.2)]
      rw [h_O_stop (by omega) (by omega)] at eO
      exact o_rt ⟨f2, by rw [← eO]⟩
theorem b_hangs (hk : k_ok l o) {i j : Int} (hi : q_32 i) (hj : q_32 j) : k_both l o (f_PG_hangs i j) (f_Mod_hangs i j) := by
  refine k_both_of fun mc mm hc hm => ?_
  have hg := hk.1
  by_cases c : g_in (l 0 0) (l 0 1) i j
  · obtain ⟨hp, hi', hj'⟩ := g_in_pt hg c
    refine ⟨q_w (h_O l 101 0 (h_F l (10 * i + j) h_0)).1, ?_, ?_⟩
    · unfold f_PG_hangs
      rw [x_lt, x_one hc.1.1, c_isInside hc.1.2 hg hi hj, x_bd, if_pos c, x_w1, if_neg (by decide), x_lt, x_one hc.1.1, show i * 10 + j = 10 * i + j by omega]
      refine o_bd (c_followers hc.1.1 hc.1.2 hg hp) fun v m1 ⟨f1, e1⟩ => ?_
      have hf : k_fc mc m1 := ⟨fun j _ => by rw [f1 0 (by decide) (by decide)], fun c _ hc => f1 c (by omega) (by omega)⟩
      exact o_rt ⟨by rw [e1], hf, k_C_same hc hf (by rw [f1 0 (by decide) (by decide)]) (f1 75 (by decide) (by decide))⟩
    · unfold f_Mod_hangs
      rw [m_isPoint hm.1 hg hi hj, x_bd, if_pos c, x_w1, if_neg (by decide)]
      refine o_mono (m_hangs hm.1 hg hp) fun v m1 ⟨f1, e1⟩ => ⟨by rw [e1], fun j _ => by rw [f1 81 (by decide) (by decide)], fun c _ hc => f1 c (by omega) (by omega)⟩
  · refine ⟨-1, ?_, ?_⟩
    · unfold f_PG_hangs
      rw [x_lt, x_one hc.1.1, c_isInside hc.1.2 hg hi hj, x_bd, if_neg c, x_w0, if_pos rfl]
      exact o_rt ⟨rfl, k_fc_id _, hc⟩
    · unfold f_Mod_hangs
      rw [m_isPoint hm.1 hg hi hj, x_bd, if_neg c, x_w0, if_pos rfl]
      exact o_rt ⟨rfl, k_fm_id _⟩
end hangs
