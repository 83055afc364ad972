/-! runs, in rows: by places, then by periods -/
theorem pw_app {R : TR → TR → Prop} {l' : List TR} : ∀ l : List TR, l.Pairwise R → l'.Pairwise R → (∀ a ∈ l, ∀ b ∈ l', R a b) → (l ++ l').Pairwise R
  | [], _, h, _ => h
  | a :: l, h1, h2, h3 => by
    have q := List.pairwise_cons.mp h1
    refine List.pairwise_cons.mpr ⟨fun b hb => ?_, pw_app l q.2 h2 (fun x hx => h3 x (List.mem_cons_of_mem _ hx))⟩
    rcases List.mem_append.mp hb with h | h
    · exact q.1 b h
    · exact h3 a List.mem_cons_self b h
theorem pw_mem {R S : TR → TR → Prop} : ∀ l : List TR, l.Pairwise R → (∀ a b, a ∈ l → b ∈ l → R a b → S a b) → l.Pairwise S
  | [], _, _ => List.Pairwise.nil
  | a :: l, h1, h2 => by
    have q := List.pairwise_cons.mp h1
    exact List.pairwise_cons.mpr ⟨fun b hb => h2 a b List.mem_cons_self (List.mem_cons_of_mem _ hb) (q.1 b hb), pw_mem l q.2 (fun x y hx hy => h2 x y (List.mem_cons_of_mem _ hx) (List.mem_cons_of_mem _ hy))⟩
/-- how far the stretch of period p from i on reaches -/
noncomputable def tov (n : Int) (f : Int → Int) (i p : Int) : Int := i + p + lcp2 n f n f i (i + p)
def isRun (n : Int) (f : Int → Int) (i p : Int) : Prop := RunAt n f i (tov n f i p) p
noncomputable def rrow (n : Int) (f : Int → Int) (i : Int) : Nat → List TR
  | 0 => []
  | p + 1 => rrow n f i p ++ pif (isRun n f i p) [(i, tov n f i p, (p : Int))] []
section RUNS1
variable {n : Int} {f : Int → Int}
theorem rrow_s {i p : Int} (h : 0 ≤ p) : rrow n f i (p + 1).toNat = rrow n f i p.toNat ++ pif (isRun n f i p) [(i, tov n f i p, p)] [] := by
  obtain ⟨k, rfl⟩ := Int.eq_ofNat_of_zero_le h
  rw [show ((k : Int) + 1).toNat = k + 1 by omega, show ((k : Int)).toNat = k by omega]
  rfl
theorem rrow_mem {i : Int} {a : TR} : ∀ m : Nat, a ∈ rrow n f i m → a.1 = i ∧ a.2.2 < m ∧ a.2.1 = tov n f i a.2.2 ∧ isRun n f i a.2.2
  | 0, h => by cases h
  | m + 1, h => by
    have h : a ∈ rrow n f i m ++ pif (isRun n f i m) [(i, tov n f i m, (m : Int))] [] := h
    rcases List.mem_append.mp h with h | h
    · obtain ⟨h1, h2, h3⟩ := rrow_mem m h
      exact ⟨h1, by omega, h3⟩
    · rcases Classical.em (isRun n f i m) with c | c
      · rw [pif_t c] at h
        have := List.mem_singleton.mp h
        subst this
        exact ⟨rfl, by show (m : Int) < _; omega, rfl, c⟩
      · rw [pif_f c] at h; cases h
theorem rrow_in {i p : Int} (h : isRun n f i p) : ∀ m : Nat, p < m → (i, tov n f i p, p) ∈ rrow n f i m
  | 0, hm => by have := h.1; omega
  | m + 1, hm => by
    show _ ∈ rrow n f i m ++ pif (isRun n f i m) [(i, tov n f i m, (m : Int))] []
    by_cases c : p = m
    · subst c
      rw [pif_t h]
      exact List.mem_append.mpr (Or.inr (List.mem_singleton.mpr rfl))
    · exact List.mem_append.mpr (Or.inl (rrow_in h m (by omega)))
theorem rrow_tail {i a : Int} (ha : 0 ≤ a) (h : ∀ p, a ≤ p → ¬ isRun n f i p) : ∀ d : Nat, rrow n f i (a.toNat + d) = rrow n f i a.toNat
  | 0 => rfl
  | d + 1 => by
    show rrow n f i (a.toNat + d) ++ pif (isRun n f i ((a.toNat + d : Nat) : Int)) _ [] = _
    rw [pif_f (h _ (by omega)), List.append_nil]
    exact rrow_tail ha h d
theorem rrow_pw {i : Int} : ∀ m : Nat, (rrow n f i m).Pairwise (fun a b => a.2.2 < b.2.2)
  | 0 => List.Pairwise.nil
  | m + 1 => by
    show (rrow n f i m ++ pif (isRun n f i m) [(i, tov n f i m, (m : Int))] []).Pairwise _
    refine pw_app _ (rrow_pw m) ?_ (fun a ha b hb => ?_)
    · rcases Classical.em (isRun n f i m) with c | c
      · rw [pif_t c]; exact List.pairwise_cons.mpr ⟨fun b hb => (by cases hb), List.Pairwise.nil⟩
      · rw [pif_f c]; exact List.Pairwise.nil
    · have h1 := (rrow_mem m ha).2.1
      rcases Classical.em (isRun n f i m) with c | c
      · rw [pif_t c] at hb
        have := List.mem_singleton.mp hb
        subst this
        exact h1
      · rw [pif_f c] at hb; cases hb
/-- all runs from places a on, at each place with periods below a bound -/
noncomputable def cl (n : Int) (f : Int → Int) (β : Int → Int) (a : Int) : Nat → List TR
  | 0 => []
  | m + 1 => cl n f β a m ++ rrow n f (a + m) (β (a + m)).toNat
theorem cl_mem {β : Int → Int} {a : Int} {x : TR} : ∀ m : Nat, x ∈ cl n f β a m → a ≤ x.1 ∧ x.1 < a + m ∧ x ∈ rrow n f x.1 (β x.1).toNat
  | 0, h => by cases h
  | m + 1, h => by
    have h : x ∈ cl n f β a m ++ rrow n f (a + m) (β (a + m)).toNat := h
    rcases List.mem_append.mp h with h | h
    · obtain ⟨h1, h2, h3⟩ := cl_mem m h
      exact ⟨h1, by omega, h3⟩
    · have e := (rrow_mem _ h).1
      rw [e]
      exact ⟨by omega, by omega, h⟩
theorem cl_in {β : Int → Int} {a i : Int} {x : TR} (h0 : a ≤ i) (h : x ∈ rrow n f i (β i).toNat) : ∀ m : Nat, i < a + m → x ∈ cl n f β a m
  | 0, h1 => by omega
  | m + 1, h1 => by
    show x ∈ cl n f β a m ++ rrow n f (a + m) (β (a + m)).toNat
    by_cases c : i = a + m
    · subst c
      exact List.mem_append.mpr (Or.inr h)
    · exact List.mem_append.mpr (Or.inl (cl_in h0 h m (by omega)))
theorem cl_c {β γ : Int → Int} {a : Int} : ∀ m : Nat, (∀ i, a ≤ i → i < a + m → rrow n f i (β i).toNat = rrow n f i (γ i).toNat) → cl n f β a m = cl n f γ a m
  | 0, _ => rfl
  | m + 1, h => by
    show cl n f β a m ++ rrow n f (a + m) (β (a + m)).toNat = cl n f γ a m ++ rrow n f (a + m) (γ (a + m)).toNat
    rw [cl_c m (fun i h0 h1 => h i h0 (by omega)), h (a + m) (by omega) (by omega)]
theorem cl_split {β : Int → Int} {a : Int} (m : Nat) : ∀ q : Nat, cl n f β a (m + q) = cl n f β a m ++ cl n f β (a + m) q
  | 0 => (List.append_nil _).symm
  | q + 1 => by
    show cl n f β a (m + q) ++ rrow n f (a + ((m + q : Nat) : Int)) (β (a + ((m + q : Nat) : Int))).toNat = cl n f β a m ++ (cl n f β (a + m) q ++ rrow n f (a + m + q) (β (a + m + q)).toNat)
    rw [cl_split m q, show a + ((m + q : Nat) : Int) = a + m + q by omega, List.append_assoc]
theorem cl_pw {β : Int → Int} {a : Int} : ∀ m : Nat, (cl n f β a m).Pairwise (fun x y => x.1 < y.1 ∨ (x.1 = y.1 ∧ x.2.2 < y.2.2))
  | 0 => List.Pairwise.nil
  | m + 1 => by
    show (cl n f β a m ++ rrow n f (a + m) (β (a + m)).toNat).Pairwise _
    refine pw_app _ (cl_pw m) (pw_mem _ (rrow_pw _) (fun x y hx hy h => Or.inr ⟨by rw [(rrow_mem _ hx).1, (rrow_mem _ hy).1], h⟩)) (fun x hx y hy => Or.inl ?_)
    rw [(rrow_mem _ hy).1]
    exact (cl_mem m hx).2.1
theorem cl_len {β : Int → Int} (hn : 0 ≤ n) (hf : ∀ k, 0 ≤ k → k < n → 0 ≤ f k) (m : Nat) : ((cl n f β 0 m).length : Int) ≤ n := by
  have rt : ∀ x, x ∈ cl n f β 0 m → isRun n f x.1 x.2.2 ∧ isRt n f x.1 x.2.2 (Classical.epsilon (isRt n f x.1 x.2.2)) := fun x hx => by
    have r := (rrow_mem _ (cl_mem m hx).2.2).2.2.2
    obtain ⟨k, s, h⟩ := run_root hf r
    exact ⟨r, Classical.epsilon_spec (p := isRt n f x.1 x.2.2) ⟨k, s, h⟩⟩
  refine nd_le hn (κ := fun x => Classical.epsilon (isRt n f x.1 x.2.2)) (pw_mem _ (cl_pw m) (fun x y hx hy h e => ?_)) (fun x hx => ?_)
  · have rx := rt x hx
    have ry := rt y hy
    have e : Classical.epsilon (isRt n f x.1 x.2.2) = Classical.epsilon (isRt n f y.1 y.2.2) := e
    rw [e] at rx
    have := rt_inj hf rx.1 ry.1 rx.2 ry.2
    omega
  · obtain ⟨r, s, -, h1, h2, -⟩ := rt x hx
    have := r.1
    show 0 ≤ Classical.epsilon (isRt n f x.1 x.2.2) ∧ Classical.epsilon (isRt n f x.1 x.2.2) < n
    omega
theorem isRun_b {i p : Int} (h : isRun n f i p) : 0 ≤ i ∧ 1 ≤ p ∧ i + 2 * p ≤ n := by
  have := h.1; omega
/-- where a stretch reaches -/
theorem tov_eq {i p j : Int} (p0 : 0 ≤ p) (h1 : i + p ≤ j) (h2 : j ≤ n) (h3 : ∀ x, i ≤ x → x + p < j → f x = f (x + p)) (h4 : j = n ∨ f (j - p) ≠ f j) : tov n f i p = j := by
  unfold tov
  have : lcp2 n f n f i (i + p) = j - i - p := lcp2_eq ⟨by omega, Or.inr ⟨by omega, by omega⟩, fun k k0 k1 => by
    have := h3 (i + k) (by omega) (by omega)
    rw [this, show i + k + p = i + p + k by omega], fun z => by
    rcases h4 with e | e
    · omega
    · apply e
      have := z.2.2
      rw [show i + (j - i - p) = j - p by omega, show i + p + (j - i - p) = j by omega] at this
      exact this⟩
  rw [this]; omega
/-- a stretch that reaches as far with a lesser period is a run of that one -/
theorem run_less {i j p : Int} (h0 : 0 ≤ i) (h1 : j ≤ n) (hp : 1 ≤ p) (len : 2 * p ≤ j - i) (per : ∀ x, i ≤ x → x + p < j → f x = f (x + p)) (beg : i = 0 ∨ f (i - 1) ≠ f (i - 1 + p)) (fin : j = n ∨ f (j - p) ≠ f j) : RunAt n f i j p ∨ ∃ q, 1 ≤ q ∧ q < p ∧ RunAt n f i j q := by
  -- the least period
  have ex : ∀ m : Nat, (m : Int) ≤ p → (∀ q, 1 ≤ q → q < p - m → ∃ x, i ≤ x ∧ x + q < j ∧ f x ≠ f (x + q)) → ∃ q, 1 ≤ q ∧ q ≤ p ∧ (∀ x, i ≤ x → x + q < j → f x = f (x + q)) ∧ ∀ r, 1 ≤ r → r < q → ∃ x, i ≤ x ∧ x + r < j ∧ f x ≠ f (x + r) := by
    intro m
    induction m with
    | zero => intro _ hq; exact ⟨p, hp, by omega, per, fun r r0 r1 => hq r r0 (by omega)⟩
    | succ m ih =>
      intro hm hq
      rcases Classical.em (1 ≤ p - ((m + 1 : Nat) : Int) ∧ ∀ x, i ≤ x → x + (p - ((m + 1 : Nat) : Int)) < j → f x = f (x + (p - ((m + 1 : Nat) : Int)))) with c | c
      · exact ⟨p - ((m + 1 : Nat) : Int), c.1, by omega, c.2, fun r r0 r1 => hq r r0 r1⟩
      · refine ih (by omega) (fun q q0 q1 => ?_)
        by_cases e : q = p - ((m + 1 : Nat) : Int)
        · subst e
          rcases Classical.em (∃ x, i ≤ x ∧ x + (p - ((m + 1 : Nat) : Int)) < j ∧ f x ≠ f (x + (p - ((m + 1 : Nat) : Int)))) with d | d
          · exact d
          · exact absurd ⟨q0, fun x x0 x1 => Classical.not_not.mp (fun z => d ⟨x, x0, x1, z⟩)⟩ c
        · exact hq q q0 (by omega)
  obtain ⟨q, q1, q2, q3, q4⟩ := ex p.toNat (by omega) (fun q q0 q1 => by omega)
  by_cases e : q = p
  · subst e
    exact Or.inl ⟨⟨h0, h1, hp, len⟩, per, beg, fin.imp id (fun z y => z y.symm), q4⟩
  · refine Or.inr ⟨q, q1, by omega, ⟨h0, h1, q1, by omega⟩, q3, beg.imp id (fun z y => z ?_), fin.imp id (fun z y => z ?_), q4⟩
    · have a1 := per (i - 1 + q) (by omega) (by omega)
      have a2 := q3 (i - 1 + p) (by omega) (by omega)
      rw [y, a1, a2, show i - 1 + q + p = i - 1 + p + q by omega]
    · have a1 := per (j - q - p) (by omega) (by omega)
      have a2 := q3 (j - q - p) (by omega) (by omega)
      rw [show j - q - p + p = j - q by omega] at a1
      rw [show j - q - p + q = j - p by omega] at a2
      rw [y, ← a1, a2]
end RUNS1
/-! a row put in by its first number -/
theorem rowx_ins {A B : List TR} {r : TR} {q x : Int} (h : 0 ≤ q) : rowx (A ++ r :: B) q x = if q < A.length then rowx (A ++ B) q x else if q = A.length then fld r x else rowx (A ++ B) (q - 1) x := by
  unfold rowx
  rw [List.getD_eq_getElem?_getD, List.getD_eq_getElem?_getD, List.getD_eq_getElem?_getD]
  by_cases c : q < A.length
  · rw [if_pos c, List.getElem?_append_left (by omega), List.getElem?_append_left (by omega)]
  · rw [if_neg c, List.getElem?_append_right (by omega)]
    by_cases d : q = A.length
    · rw [if_pos d, show q.toNat - A.length = 0 by omega]; rfl
    · rw [if_neg d, List.getElem?_append_right (by omega), show q.toNat - A.length = ((q - 1).toNat - A.length) + 1 by omega]; rfl
theorem rowx_mem {l : List TR} {q : Int} (h0 : 0 ≤ q) (h1 : q < l.length) : ∃ a ∈ l, ∀ x, rowx l q x = fld a x := by
  refine ⟨l[q.toNat]'(by omega), List.getElem_mem _, fun x => ?_⟩
  unfold rowx
  rw [List.getD_eq_getElem?_getD, List.getElem?_eq_getElem (by omega)]; rfl
theorem mem_rowx {l : List TR} {a : TR} (h : a ∈ l) : ∃ q : Int, 0 ≤ q ∧ q < l.length ∧ ∀ x, rowx l q x = fld a x := by
  obtain ⟨k, hk, e⟩ := List.getElem_of_mem h
  refine ⟨k, by omega, by omega, fun x => ?_⟩
  unfold rowx
  rw [List.getD_eq_getElem?_getD, show ((k : Int)).toNat = k by omega, List.getElem?_eq_getElem hk, e]; rfl
section ADDF
variable {G : JG} {Q : Int → JM → Prop} {M : JM} {d e : Int}
theorem c_wr3 {k a b c : Int} (a1 : M 0 d 0 = 20) (a2 : M 1100 d 0 = e) (a3 : M 0 e 0 = 1) (a4 : M 1 e 0 = 3 * 240) (b1 : M 3001 d 0 = 3) (h0 : 0 ≤ k) (h1 : k < 240) (h : Q 0 (jset (jset (jset M 2 e (k * 3) a) 2 e (k * 3 + 1) b) 2 e (k * 3 + 2) c)) : Runs G 105 0 0 [(1, d), (0, k), (0, a), (0, b), (0, c)] M Q := by
  refine rn_X10_write d k a b c M (sg_X10_write_0 d k a b c M ?_)
  rw [b1, a2]
  exact ⟨a1, by unfold jR; omega, a1, ⟨a3, by omega, by omega⟩, a1, fun g => absurd g (by omega), fun g => ⟨a1, by unfold jR; omega, ⟨a3, by omega, by omega⟩, a1, fun g2 => absurd g2 (by omega), fun g2 => ⟨a1, by unfold jR; omega, ⟨a3, by omega, by omega⟩, h⟩⟩⟩
theorem c_addF {a b c : Int} {A B : List TR} (T : TdL M d e 3 240 (A ++ B)) (hA : ∀ x ∈ A, x.1 ≤ a) (hB : ∀ x ∈ B, a < x.1) (hl : ((A ++ B).length : Int) < 240) (h : ∀ M', Tof d e M M' → TdL M' d e 3 240 (A ++ (a, b, c) :: B) → Q 0 M') : Runs G 104 0 0 [(1, d), (0, a), (0, b), (0, c)] M Q := by
  have T0 := T
  obtain ⟨⟨a1, a2, a3, a4⟩, ⟨b1, b2, b3, b4⟩, ⟨c1, c2⟩, e1⟩ := T
  have hlen : (((A ++ (a, b, c) :: B).length : Nat) : Int) = (A ++ B).length + 1 := by rw [List.length_append, List.length_append]; show ((_ + (_ + 1) : Nat) : Int) = _; omega
  obtain ⟨l, hl'⟩ : ∃ l, l = A ++ B := ⟨_, rfl⟩
  rw [← hl'] at hl c1 c2 e1 T0 hlen
  have lA : (A.length : Int) ≤ l.length := by rw [hl', List.length_append]; omega
  -- where the row goes
  have low : ∀ q : Int, 0 ≤ q → q < A.length → rowx l q 0 ≤ a := fun q q0 q1 => by
    obtain ⟨x, hx, hr⟩ := rowx_mem (l := A) q0 q1
    have := hA x hx
    have e : rowx l q 0 = rowx A q 0 := by
      rw [hl']; unfold rowx
      rw [List.getD_eq_getElem?_getD, List.getD_eq_getElem?_getD, List.getElem?_append_left (by omega)]
    rw [e, hr]; exact this
  have high : ∀ q : Int, (A.length : Int) ≤ q → q < l.length → a < rowx l q 0 := fun q q0 q1 => by
    have lB : ((A ++ B).length : Int) = A.length + B.length := by rw [List.length_append]; omega
    obtain ⟨x, hx, hr⟩ := rowx_mem (l := B) (q := q - A.length) (by omega) (by rw [hl'] at q1; omega)
    have := hB x hx
    have e : rowx l q 0 = rowx B (q - A.length) 0 := by
      rw [hl']; unfold rowx
      rw [List.getD_eq_getElem?_getD, List.getD_eq_getElem?_getD, List.getElem?_append_right (by omega), show q.toNat - A.length = (q - A.length).toNat by omega]
    rw [e, hr]; exact this
  have fin : ∀ (k : Int) (N : JM), 0 ≤ k → k ≤ l.length → (∀ (q : Nat) (z j : Int), ¬ (q = 2 ∧ z = e) → N q z j = M q z j) → (∀ q x, 0 ≤ q → q < k → 0 ≤ x → x < 3 → N 2 e (q * 3 + x) = rowx l q x) → (∀ q x, k ≤ q → q < l.length → 0 ≤ x → x < 3 → N 2 e ((q + 1) * 3 + x) = rowx l q x) → (∀ q, k ≤ q → q < l.length → a < rowx l q 0) → (k = 0 ∨ rowx l (k - 1) 0 ≤ a) → N 0 d 0 = 20 ∧ Runs G 105 0 0 [(1, d), (0, k), (0, a), (0, b), (0, c)] N (fun _ M1 => jokM M1 → M1 0 d 0 = 20 ∧ jR (M1 3003 d 0 + 1) ∧ M1 0 d 0 = 20 ∧ Q 0 (jset M1 3003 d 0 (M1 3003 d 0 + 1))) := fun k N k0 k1 fr lo hi gt st => by
    have kA : k = A.length := by
      rcases Int.lt_trichotomy k A.length with z | z | z
      · have x1 := gt k (by omega) (by omega)
        have x2 := low k k0 z
        omega
      · exact z
      · have x1 := high (k - 1) (by omega) (by omega)
        rcases st with y | y
        · omega
        · omega
    have n1 : ∀ q, q ≠ 2 → N q d 0 = M q d 0 := fun q hq => fr q d 0 (fun z => hq z.1)
    have n2 : ∀ q, q ≠ 2 → N q e 0 = M q e 0 := fun q hq => fr q e 0 (fun z => hq z.1)
    refine ⟨by rw [n1 _ (by decide)]; exact a1, ?_⟩
    have z3 : ∀ u v w : Int, jset (jset (jset N 2 e (k * 3) u) 2 e (k * 3 + 1) v) 2 e (k * 3 + 2) w 3003 d 0 = l.length := fun u v w => by
      rw [jset_k (by decide), jset_k (by decide), jset_k (by decide), n1 _ (by decide)]; exact c1
    refine c_wr3 (e := e) (by rw [n1 _ (by decide)]; exact a1) (by rw [n1 _ (by decide)]; exact a2) (by rw [n2 _ (by decide)]; exact a3) (by rw [n2 _ (by decide)]; exact a4) (by rw [n1 _ (by decide)]; exact b1) k0 (by omega) (fun _ => ?_)
    rw [z3]
    obtain ⟨V, hV⟩ : ∃ V, V = jset (jset (jset N 2 e (k * 3) a) 2 e (k * 3 + 1) b) 2 e (k * 3 + 2) c := ⟨_, rfl⟩
    rw [← hV]
    have vf : ∀ (q : Nat) (z j : Int), ¬ (q = 2 ∧ z = e) → V q z j = M q z j := fun q z j g => by
      rw [hV, show jset (jset (jset N 2 e (k * 3) a) 2 e (k * 3 + 1) b) 2 e (k * 3 + 2) c q z j = jset (jset N 2 e (k * 3) a) 2 e (k * 3 + 1) b q z j from if_neg (fun y => g ⟨y.1, y.2.1⟩), show jset (jset N 2 e (k * 3) a) 2 e (k * 3 + 1) b q z j = jset N 2 e (k * 3) a q z j from if_neg (fun y => g ⟨y.1, y.2.1⟩), show jset N 2 e (k * 3) a q z j = N q z j from if_neg (fun y => g ⟨y.1, y.2.1⟩)]
      exact fr q z j g
    have v1 : ∀ q, q ≠ 2 → V q d 0 = M q d 0 := fun q hq => vf q d 0 (fun z => hq z.1)
    have v2 : ∀ q, q ≠ 2 → V q e 0 = M q e 0 := fun q hq => vf q e 0 (fun z => hq z.1)
    have vo : ∀ j, ¬ (k * 3 ≤ j ∧ j < k * 3 + 3) → V 2 e j = N 2 e j := fun j g => by
      rw [hV, jset_j (by omega), jset_j (by omega), jset_j (by omega)]
    have w1 : V 0 d 0 = 20 := by rw [v1 _ (by decide)]; exact a1
    refine ⟨w1, by unfold jR; omega, w1, h _ (fun q z j g1 g2 => ?_) ⟨⟨?_, ?_, ?_, ?_⟩, ⟨?_, ?_, b3, b4⟩, ⟨?_, by omega⟩, fun q x g1 g2 g3 g4 => ?_⟩⟩
    · rw [show jset V 3003 d 0 (↑l.length + 1) q z j = V q z j from if_neg (fun y => g1 ⟨y.1, y.2.1⟩)]
      exact vf q z j g2
    · rw [jset_k (by decide)]; exact w1
    · rw [jset_k (by decide), v1 _ (by decide)]; exact a2
    · rw [jset_k (by decide), v2 _ (by decide)]; exact a3
    · rw [jset_k (by decide), v2 _ (by decide)]; exact a4
    · rw [jset_k (by decide), v1 _ (by decide)]; exact b1
    · rw [jset_k (by decide), v1 _ (by decide)]; exact b2
    · rw [jset_s, hlen]
    · rw [jset_k (by decide), rowx_ins g1, ← hl', ← kA]
      by_cases y1 : q < k
      · rw [if_pos y1, vo _ (by omega)]; exact lo q x g1 y1 g3 g4
      · rw [if_neg y1]
        by_cases y2 : q = k
        · rw [if_pos y2, y2, hV]
          have : x = 0 ∨ x = 1 ∨ x = 2 := by omega
          rcases this with rfl | rfl | rfl
          · rw [jset_j (by omega), jset_j (by omega), Int.add_zero, jset_s]; rfl
          · rw [jset_j (by omega), jset_s]; rfl
          · rw [jset_s]; rfl
        · rw [if_neg y2, vo _ (by omega)]
          have := hi (q - 1) x (by omega) (by omega) g3 g4
          rw [show q - 1 + 1 = q by omega] at this
          exact this
  refine lp_X10_addByFirst (fun v0 v1 v2 v3 v4 N => d = v0 ∧ a = v1 ∧ b = v2 ∧ c = v3 ∧ 0 ≤ v4 ∧ v4 ≤ l.length ∧ (∀ (q : Nat) (z j : Int), ¬ (q = 2 ∧ z = e) → N q z j = M q z j) ∧ (∀ q x, 0 ≤ q → q < v4 → 0 ≤ x → x < 3 → N 2 e (q * 3 + x) = rowx l q x) ∧ (∀ q x, v4 ≤ q → q < l.length → 0 ≤ x → x < 3 → N 2 e ((q + 1) * 3 + x) = rowx l q x) ∧ ∀ q, v4 ≤ q → q < l.length → a < rowx l q 0) (fun _ _ _ _ v4 => v4.toNat) ?_ _ _ _ _ M ?_
  · rintro v0 v1 v2 v3 v4 N ⟨rfl, rfl, rfl, rfl, k0, k1, fr, lo, hi, gt⟩
    have n1 : ∀ q, q ≠ 2 → N q d 0 = M q d 0 := fun q hq => fr q d 0 (fun z => hq z.1)
    have n2 : ∀ q, q ≠ 2 → N q e 0 = M q e 0 := fun q hq => fr q e 0 (fun z => hq z.1)
    have m1 : N 0 d 0 = 20 := by rw [n1 _ (by decide)]; exact a1
    have m2 : N 1100 d 0 = e := by rw [n1 _ (by decide)]; exact a2
    have m3 : N 0 e 0 = 1 := by rw [n2 _ (by decide)]; exact a3
    have m4 : N 1 e 0 = 3 * 240 := by rw [n2 _ (by decide)]; exact a4
    have m5 : N 3001 d 0 = 3 := by rw [n1 _ (by decide)]; exact b1
    refine ⟨fun q => fin v4 N k0 k1 fr lo hi gt (Or.inl (by omega)), fun q => ?_⟩
    have l0 := lo (v4 - 1) 0 (by omega) (by omega) (by omega) (by omega)
    rw [Int.add_zero] at l0
    rw [m5, m2, m3, m4, l0]
    refine ⟨m1, by unfold jR; omega, m1, by unfold jR; omega, ⟨rfl, by omega, by omega⟩, fun le => fin v4 N k0 k1 fr lo hi gt (Or.inr le), fun le => ⟨m1, by unfold jR; omega, m1, by unfold jR; omega, m1, m1, by unfold jR; omega, m1, ⟨rfl, rfl, by omega, by omega, by omega, by omega, by omega⟩, by unfold jR; omega, ⟨rfl, rfl, rfl, rfl, by omega, by omega, fun q z j g => ?_, fun q x g1 g2 g3 g4 => ?_, fun q x g1 g2 g3 g4 => ?_, fun q g1 g2 => ?_⟩, by omega⟩⟩
    · rw [show jcpy N e ((v4 - 1) * 3) e (v4 * 3) 3 q z j = N q z j from if_neg (fun y => g ⟨y.1, y.2.1⟩)]
      exact fr q z j g
    · rw [show jcpy N e ((v4 - 1) * 3) e (v4 * 3) 3 2 e (q * 3 + x) = N 2 e (q * 3 + x) from if_neg (by omega)]
      exact lo q x g1 (by omega) g3 g4
    · by_cases y : q = v4 - 1
      · rw [show jcpy N e ((v4 - 1) * 3) e (v4 * 3) 3 2 e ((q + 1) * 3 + x) = N 2 e ((v4 - 1) * 3 + ((q + 1) * 3 + x - v4 * 3)) from if_pos ⟨rfl, rfl, by omega, by omega⟩, show (v4 - 1) * 3 + ((q + 1) * 3 + x - v4 * 3) = (v4 - 1) * 3 + x by omega, y]
        exact lo (v4 - 1) x (by omega) (by omega) g3 g4
      · rw [show jcpy N e ((v4 - 1) * 3) e (v4 * 3) 3 2 e ((q + 1) * 3 + x) = N 2 e ((q + 1) * 3 + x) from if_neg (by omega)]
        exact hi q x (by omega) g2 g3 g4
    · by_cases y : q = v4 - 1
      · rw [y]; omega
      · exact gt q (by omega) g2
  · rw [c1, b2]
    exact ⟨a1, a1, fun _ => ⟨a1, rfl, rfl, rfl, rfl, by omega, by omega, fun _ _ _ _ => rfl, fun q x q0 q1 x0 x1 => e1 q x q0 q1 x0 x1, fun q x q0 q1 => by omega, fun q q0 q1 => by omega⟩, fun q => absurd hl q⟩
end ADDF
