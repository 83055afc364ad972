/-! step: palindromes -/
def pal (f : Int → Int) (s e : Int) : Prop := ∀ k, s ≤ k → k < e → f k = f (s + e - 1 - k)
def PVp (n : Int) (f : Int → Int) (S : Int → Int → Prop) (a : Int → Int) : Prop := a 0 = 0 ∧ ∀ e, 1 ≤ e → e ≤ n → (0 ≤ a e ∧ a e ≤ e) ∧ (∀ s, 0 ≤ s → s < e → pal f s e → S s e → a e ≤ a s + 1) ∧ (a e = e ∨ ∃ s, 0 ≤ s ∧ s < e ∧ pal f s e ∧ S s e ∧ a e = a s + 1)
theorem PV_uniq {n : Int} {f : Int → Int} {a b : Int → Int} (ha : PVp n f (fun _ _ => True) a) (hb : PVp n f (fun _ _ => True) b) : ∀ (k : Nat) (e : Int), e = k → e ≤ n → a e = b e := by
  intro k
  induction k using Nat.strongRecOn with
  | ind k ih =>
    intro e he hn
    by_cases h0 : e = 0
    · rw [h0, ha.1, hb.1]
    · obtain ⟨a1, a2, a3⟩ := ha.2 e (by omega) hn
      obtain ⟨b1, b2, b3⟩ := hb.2 e (by omega) hn
      have le1 : a e ≤ b e := by
        rcases b3 with h | ⟨s, s0, s1, s2, -, s3⟩
        · omega
        · have := a2 s s0 s1 s2 trivial
          have := ih s.toNat (by omega) s (by omega) (by omega)
          omega
      have le2 : b e ≤ a e := by
        rcases a3 with h | ⟨s, s0, s1, s2, -, s3⟩
        · omega
        · have := b2 s s0 s1 s2 trivial
          have := ih s.toNat (by omega) s (by omega) (by omega)
          omega
      omega
theorem PVp_S {n : Int} {f : Int → Int} {S S' : Int → Int → Prop} {a : Int → Int} (h : PVp n f S a) (hs : ∀ s e, 0 ≤ s → s < e → e ≤ n → pal f s e → (S s e ↔ S' s e)) : PVp n f S' a := ⟨h.1, fun e e0 e1 => by
  obtain ⟨h1, h2, h3⟩ := h.2 e e0 e1
  refine ⟨h1, fun s s0 s1 p q => h2 s s0 s1 p ((hs s e s0 s1 e1 p).mpr q), h3.imp id ?_⟩
  rintro ⟨s, s0, s1, p, q, r⟩
  exact ⟨s, s0, s1, p, (hs s e s0 s1 e1 p).mp q, r⟩⟩
theorem palF_spec {n : Int} {f : Int → Int} : ∀ (k : Nat) (l r : Int), l < k → ∃ x, x ≤ l ∧ palF n f k l r = l + r - 2 * x - 1 ∧ (∀ y, x < y → y ≤ l → 0 ≤ y ∧ l + r - y < n ∧ f y = f (l + r - y)) ∧ ¬ (0 ≤ x ∧ l + r - x < n ∧ f x = f (l + r - x))
  | 0, l, r, h => ⟨l, Int.le_refl _, by show r - l - 1 = _; omega, fun y y0 y1 => by omega, fun z => by have := z.1; omega⟩
  | k + 1, l, r, h => by
    rcases Classical.em (0 ≤ l ∧ r < n ∧ f l = f r) with q | q
    · obtain ⟨x, x1, x2, x3, x4⟩ := @palF_spec n f k (l - 1) (r + 1) (by omega)
      rw [show l - 1 + (r + 1) = l + r by omega] at x2 x3 x4
      refine ⟨x, by omega, (cif_t q).trans x2, fun y y0 y1 => ?_, x4⟩
      by_cases hy : y = l
      · rw [hy, show l + r - l = r by omega]; exact q
      · exact x3 y y0 (by omega)
    · refine ⟨l, Int.le_refl _, (cif_f q).trans (by omega), fun y y0 y1 => by omega, fun z => q ?_⟩
      rw [show l + r - l = r by omega] at z; exact z
/-- around a centre it is as long as that exactly if the part is a palindrome -/
theorem palF_pal {n s e : Int} {f : Int → Int} (h0 : 0 ≤ s) (h1 : s < e) (h2 : e ≤ n) (h3 : e ≤ 240) : e - s ≤ palF n f 300 ((s + e - 1) / 2) ((s + e - 1 + 1) / 2) ↔ pal f s e := by
  obtain ⟨x, x1, x2, x3, x4⟩ := @palF_spec n f 300 ((s + e - 1) / 2) ((s + e - 1 + 1) / 2) (by omega)
  rw [show (s + e - 1) / 2 + (s + e - 1 + 1) / 2 = s + e - 1 by omega] at x2 x3 x4
  rw [x2]
  constructor
  · intro h k k0 k1
    by_cases hk : k ≤ (s + e - 1) / 2
    · exact (x3 k (by omega) hk).2.2
    · have := (x3 (s + e - 1 - k) (by omega) (by omega)).2.2
      rw [show s + e - 1 - (s + e - 1 - k) = k by omega] at this
      exact this.symm
  · intro h
    rcases Int.lt_or_le x s with q | q
    · omega
    · exact absurd ⟨by omega, by omega, h x q (by omega)⟩ x4
section PALS
variable {G : JG} {X : Int}
set_option maxHeartbeats 2000000 in
theorem st_palindromes (t : Int) : JSt (IV X) 3072 G X 143 232 [(0, t)] := mk_rl fun n M T K P D C H A hX => by
  by_cases ht : 0 ≤ t ∧ t < T.1
  · obtain ⟨u1, u2, -⟩ := A.1.2.2 t ht.1 ht.2
    have a2 := A.1.2.1
    obtain ⟨L, hL⟩ : ∃ L, L = T.2.1 t := ⟨_, rfl⟩
    obtain ⟨f, hf⟩ : ∃ f, f = T.2.2 t := ⟨_, rfl⟩
    rw [← hL] at u1 u2
    refine ⟨fun r => ∃ a, PVp L f (fun _ _ => True) a ∧ r = a L, fun Q hQ => ?_, ?_⟩
    · have W := C.1
      obtain ⟨TT, e1, e2, e3, e4, e5, e6, e7, e8⟩ := c_txt C A ht
      rw [← hL] at e1 e3
      rw [← hf] at e3
      have tx : ∀ N, Aof X 163 M N → WSt X N ∧ N 0 (X + (4 + 2 * t)) 0 = 19 ∧ N 2901 (X + (4 + 2 * t)) 0 = L ∧ N 1000 (X + (4 + 2 * t)) 0 = X + (5 + 2 * t) ∧ N 0 (X + (5 + 2 * t)) 0 = 1 ∧ N 1 (X + (5 + 2 * t)) 0 = 240 ∧ ∀ i, 0 ≤ i → i < L → N 2 (X + (5 + 2 * t)) i = f i := fun N o => ⟨W.keep fun k a j _ _ hk => o k a j (by omega), by rw [o _ _ _ (by omega)]; exact e4, by rw [o _ _ _ (by omega)]; exact e1, by rw [o _ _ _ (by omega)]; exact e2, by rw [o _ _ _ (by omega)]; exact e5, by rw [o _ _ _ (by omega)]; exact e6, fun i i0 i1 => by rw [o _ _ _ (by omega)]; exact e3 i i0 i1⟩
      refine rn_X11_palindromes _ _ M (sg_X11_palindromes_0 _ _ M ?_)
      rw [wa_1200 W]
      refine ⟨wa_t W, w_shelf_t W, c_lkT C A hX ht (fun _ => ⟨fun q => absurd q (by omega), fun _ => ⟨wa_t W, by rw [wa_1203 W]; exact w_forms_t W, ?_⟩⟩)⟩
      rw [wa_1203 W]
      refine lp_X0_leastMirrored (fun v0 v1 v2 N => X + 161 = v0 ∧ X + (4 + 2 * t) = v1 ∧ Aof X 163 M N ∧ 0 ≤ v2 ∧ v2 ≤ L + 1 ∧ ∀ i, 0 ≤ i → i < v2 → N 2 (X + 163) i = i) (fun _ _ v2 => (1000 - v2).toNat + 10000000) (fun v0 v1 v2 N => X + 161 = v0 ∧ X + (4 + 2 * t) = v1 ∧ Aof X 163 M N ∧ 0 ≤ v2 ∧ v2 ≤ 1000 ∧ PVp L f (fun s e => s + e - 1 < v2) (N 2 (X + 163))) (fun _ _ v2 => ((2000 - v2) * 1000).toNat) (fun v0 v1 v2 v3 v4 N => X + 161 = v0 ∧ X + (4 + 2 * t) = v1 ∧ Aof X 163 M N ∧ (0 ≤ v2 ∧ v2 ≤ 2 * L - 2) ∧ -1 ≤ v3 ∧ v3 ≤ v4 ∧ v3 + v4 = v2 ∧ v4 ≤ L ∧ (∀ k, v3 < k → k < v4 → f k = f (v2 - k)) ∧ PVp L f (fun s e => s + e - 1 < v2 ∨ (s + e - 1 = v2 ∧ v3 < s)) (N 2 (X + 163))) (fun _ _ v2 v3 _ => ((2000 - v2) * 1000 - 500 + v3).toNat) ?_ ?_ ?_ _ _ M ⟨rfl, rfl, Aof.refl X 163 M, by omega, by omega, fun i i0 i1 => by omega⟩
      · rintro v0 v1 v2 N ⟨rfl, rfl, i0, i1, i2, i3⟩
        obtain ⟨W1, t4, t1, t2, t5, t6, t3⟩ := tx N i0
        rw [t1]
        refine ⟨t4, fun q => ⟨⟨rfl, rfl, i0, by omega, by omega, ⟨i3 0 (by omega) (by omega), fun e h0 h1 => ?_⟩⟩, by omega⟩, fun q => ?_⟩
        · rw [i3 e (by omega) (by omega)]
          exact ⟨by omega, fun s s0 s1 p z => by omega, Or.inl rfl⟩
        · rw [w_forms_101 W1, w_fleast_t W1, w_fleast_n W1]
          refine ⟨w_forms_t W1, ⟨rfl, by omega, by omega⟩, by unfold jR; omega, ⟨rfl, rfl, i0.set _ _, by omega, by omega, fun i h0 h1 => ?_⟩, by omega⟩
          by_cases hi : i = v2
          · rw [hi, jset_s]
          · rw [jset_j hi]; exact i3 i h0 (by omega)
      · rintro v0 v1 v2 N ⟨rfl, rfl, i0, i1, i2, i3⟩
        obtain ⟨W1, t4, t1, t2, t5, t6, t3⟩ := tx N i0
        rw [t1]
        refine ⟨t4, by unfold jR; omega, by unfold jR; omega, fun q => ?_, fun q => ⟨⟨i1, by decide⟩, ⟨i1, by decide⟩, by unfold jR; omega, ⟨rfl, rfl, i0, ⟨i1, by omega⟩, by omega, by omega, by omega, by omega, fun k k0 k1 => by rw [show v2 - k = k by omega], PVp_S i3 (fun s e s0 s1 s2 p => ⟨fun z => Or.inl z, fun z => by omega⟩)⟩, by omega⟩⟩
        rw [w_forms_101 W1, w_fleast_t W1, w_fleast_n W1]
        obtain ⟨x1, x2, x3, x4, x5⟩ := i0.cb (Or.inr rfl) C H A
        exact ⟨w_forms_t W1, t4, ⟨rfl, by omega, by omega⟩, fun _ => hQ _ N ⟨_, PVp_S i3 (fun s e s0 s1 s2 p => ⟨fun _ => trivial, fun _ => by omega⟩), rfl⟩ x1 x2 x3 x4 x5⟩
      · rintro v0 v1 v2 v3 v4 N ⟨rfl, rfl, i0, i1, i2, i3, i4, i5, i6, i7⟩
        obtain ⟨W1, t4, t1, t2, t5, t6, t3⟩ := tx N i0
        have out : ¬ (0 ≤ v3 ∧ v4 < L ∧ f v3 = f v4) → jR (v2 + 1) ∧ (X + 161 = X + 161 ∧ X + (4 + 2 * t) = X + (4 + 2 * t) ∧ Aof X 163 M N ∧ 0 ≤ v2 + 1 ∧ v2 + 1 ≤ 1000 ∧ PVp L f (fun s e => s + e - 1 < v2 + 1) (N 2 (X + 163))) ∧ ((2000 - (v2 + 1)) * 1000).toNat < ((2000 - v2) * 1000 - 500 + v3).toNat := fun q => ⟨by unfold jR; omega, ⟨rfl, rfl, i0, by omega, by omega, PVp_S i7 (fun s e s0 s1 s2 p => ⟨fun z => by omega, fun z => by
          by_cases c : s + e - 1 < v2
          · exact Or.inl c
          · refine Or.inr ⟨by omega, ?_⟩
            rcases Int.lt_or_le v3 s with g | g
            · exact g
            · exfalso
              apply q
              have := p v3 g (by omega)
              rw [show s + e - 1 - v3 = v4 by omega] at this
              exact ⟨by omega, by omega, this⟩⟩)⟩, by omega⟩
        rw [t1, t2]
        refine ⟨fun q => out (by omega), fun q => ⟨t4, fun q2 => out (by omega), fun q2 => ?_⟩⟩
        rw [t3 v3 (by omega) (by omega), t3 v4 (by omega) (by omega), w_forms_101 W1, w_fleast_t W1, w_fleast_n W1]
        refine ⟨t4, ⟨t5, by omega, by omega⟩, t4, ⟨t5, by omega, by omega⟩, fun e => out (fun z => e z.2.2), fun e => ?_⟩
        have e := Classical.not_not.mp e
        have pl : pal f v3 (v4 + 1) := fun k k0 k1 => by
          rw [show v3 + (v4 + 1) - 1 - k = v2 - k by omega]
          by_cases h1 : k = v3
          · rw [h1, show v2 - v3 = v4 by omega]; exact e
          · by_cases h2 : k = v4
            · rw [h2, show v2 - v4 = v3 by omega]; exact e.symm
            · exact i6 k (by omega) (by omega)
        obtain ⟨b1, b2, b3⟩ := i7.2 (v4 + 1) (by omega) (by omega)
        have a3 : 0 ≤ N 2 (X + 163) v3 ∧ N 2 (X + 163) v3 ≤ 240 := by
          by_cases h : v3 = 0
          · rw [h, i7.1]; omega
          · have := (i7.2 v3 (by omega) (by omega)).1; omega
        refine ⟨w_forms_t W1, by unfold jR; omega, w_forms_t W1, by unfold jR; omega, ⟨rfl, by omega, by omega⟩, w_forms_t W1, ⟨rfl, by omega, by omega⟩, by unfold jR; omega, ⟨rfl, by omega, by omega⟩, by unfold jR; omega, by unfold jR; omega, ⟨rfl, rfl, i0.set _ _, i1, by omega, by omega, by omega, by omega, fun k k0 k1 => ?_, ?_⟩, by omega⟩
        · by_cases h1 : k = v3
          · rw [h1, show v2 - v3 = v4 by omega]; exact e
          · by_cases h2 : k = v4
            · rw [h2, show v2 - v4 = v3 by omega]; exact e.symm
            · exact i6 k (by omega) (by omega)
        · obtain ⟨v, hv⟩ : ∃ v, v = min (N 2 (X + 163) (v4 + 1)) (N 2 (X + 163) v3 + 1) := ⟨_, rfl⟩
          rw [← hv]
          have hv2 : v ≤ N 2 (X + 163) (v4 + 1) ∧ v ≤ N 2 (X + 163) v3 + 1 ∧ (v = N 2 (X + 163) (v4 + 1) ∨ v = N 2 (X + 163) v3 + 1) := by omega
          refine ⟨by rw [jset_j (by omega)]; exact i7.1, fun x x0 x1 => ?_⟩
          by_cases hx : x = v4 + 1
          · subst hx
            rw [jset_s]
            refine ⟨by omega, fun s s0 s1 p z => ?_, ?_⟩
            · rw [jset_j (by omega)]
              by_cases hs : s = v3
              · rw [hs]; omega
              · have := b2 s s0 s1 p (by omega); omega
            · rcases hv2.2.2 with h | h
              · rcases b3 with h3 | ⟨s, s0, s1, s2, s3, s4⟩
                · exact Or.inl (by omega)
                · exact Or.inr ⟨s, s0, s1, s2, by omega, by rw [jset_j (by omega)]; omega⟩
              · exact Or.inr ⟨v3, by omega, by omega, pl, by omega, by rw [jset_j (by omega)]; exact h⟩
          · obtain ⟨c1, c2, c3⟩ := i7.2 x x0 x1
            rw [jset_j hx]
            refine ⟨c1, fun s s0 s1 p z => ?_, c3.imp id ?_⟩
            · rw [jset_j (by omega)]
              exact c2 s s0 s1 p (by omega)
            · rintro ⟨s, s0, s1, s2, s3, s4⟩
              exact ⟨s, s0, s1, s2, by omega, by rw [jset_j (by omega)]; exact s4⟩
    · rintro M1 Q r ⟨a, pa, rfl⟩ R hQ
      have W := R.1
      have wt := w_model_t W
      obtain ⟨z1, z2, z3, z4, z5⟩ := r_txt R A ht
      rw [← hL] at z1
      have rb : ∀ N, Aof X 232 M1 N → FrR X M1 N ∧ RI X N T K P D := fun N o => ⟨fun k a j q => o k a j (by omega), R.keep (R.1.keep fun k a j _ _ hk => o k a j (by omega)) fun k a j q => o k a j (by unfold fpR at q; omega)⟩
      refine lp_X12_palindromes (fun v0 v1 v2 v3 N => X + 218 = v0 ∧ t = v1 ∧ L = v2 ∧ 1 ≤ v3 ∧ v3 ≤ L + 1 ∧ Aof X 232 M1 N ∧ PVp (v3 - 1) f (fun _ _ => True) (N 2 (X + 232))) (fun _ _ _ v3 => ((1000 - v3) * 1000).toNat) (fun v0 v1 v2 v3 v4 N => X + 218 = v0 ∧ t = v1 ∧ L = v2 ∧ 1 ≤ v3 ∧ v3 ≤ L ∧ 0 ≤ v4 ∧ v4 ≤ v3 ∧ Aof X 232 M1 N ∧ PVp v3 f (fun s e => e = v3 → s < v4) (N 2 (X + 232))) (fun _ _ _ v3 v4 => ((1000 - v3) * 1000 - 1 - v4).toNat) ?_ ?_ _ _ M1 ?_
      · rintro v0 v1 v2 v3 N ⟨rfl, rfl, rfl, i1, i2, i3, i4⟩
        obtain ⟨fN, rN⟩ := rb N i3
        have W1 := rN.1
        rw [w_model_1318 W1, w_m1318_t W1, w_m1318_n W1]
        refine ⟨fun q => ⟨w_model_t W1, ⟨rfl, by omega, by omega⟩, ?_⟩, fun q => ⟨w_model_t W1, ⟨rfl, by omega, by omega⟩, ⟨rfl, rfl, rfl, i1, by omega, by omega, by omega, i3.set _ _, ⟨by rw [jset_j (by omega)]; exact i4.1, fun e e0 e1 => ?_⟩⟩, by omega⟩⟩
        · have e : v3 - 1 = L := by omega
          rw [e] at i4
          rw [← PV_uniq pa i4 L.toNat L (by omega) (by omega)]
          exact hQ N fN rN
        · by_cases he : e = v3
          · rw [he, jset_s]
            exact ⟨by omega, fun s s0 s1 p z => by have := z rfl; omega, Or.inl rfl⟩
          · obtain ⟨c1, c2, c3⟩ := i4.2 e e0 (by omega)
            rw [jset_j he]
            refine ⟨c1, fun s s0 s1 p _ => ?_, c3.imp id ?_⟩
            · rw [jset_j (by omega)]; exact c2 s s0 s1 p trivial
            · rintro ⟨s, s0, s1, s2, -, s4⟩
              exact ⟨s, s0, s1, s2, fun z => absurd z he, by rw [jset_j (by omega)]; exact s4⟩
      · rintro v0 v1 v2 v3 v4 N ⟨rfl, rfl, rfl, i1, i2, i3, i4, i5, i6⟩
        obtain ⟨fN, rN⟩ := rb N i5
        have W1 := rN.1
        have wn := w_model_t W1
        have same : jset N 2 (X + 232) v3 (N 2 (X + 232) v3) = N := jm_ext fun k a j => by
          unfold jset
          by_cases c : k = 2 ∧ a = X + 232 ∧ j = v3
          · rw [if_pos c, c.1, c.2.1, c.2.2]
          · rw [if_neg c]
        refine ⟨fun q => ⟨by unfold jR; omega, ⟨rfl, rfl, rfl, by omega, by omega, i5, ?_⟩, by omega⟩, fun q => ⟨by unfold jR; omega, by unfold jR; omega, wn, ?_⟩⟩
        · rw [show v3 + 1 - 1 = v3 by omega]
          exact PVp_S i6 (fun s e s0 s1 s2 p => ⟨fun _ => trivial, fun _ z => by omega⟩)
        · obtain ⟨b1, b2, b3⟩ := i6.2 v3 i1 (Int.le_refl _)
          have a4 : 0 ≤ N 2 (X + 232) v4 ∧ N 2 (X + 232) v4 ≤ 240 := by
            by_cases h : v4 = 0
            · rw [h, i6.1]; omega
            · have := (i6.2 v4 (by omega) (by omega)).1; omega
          have pp := @palF_pal L v4 v3 f i3 (by omega) i2 (by omega)
          refine r_around rN A ht (by omega) (by omega) (fun _ => ?_)
          rw [← hL, ← hf, show v4 + v3 - 1 = v4 + v3 - 1 from rfl, w_model_1318 W1, w_m1318_t W1, w_m1318_n W1, same]
          -- nothing new at v4, or v
          have keep : (pal f v4 v3 → N 2 (X + 232) v3 ≤ N 2 (X + 232) v4 + 1) → PVp v3 f (fun s e => e = v3 → s < v4 + 1) (N 2 (X + 232)) := fun h => ⟨i6.1, fun e e0 e1 => by
            obtain ⟨c1, c2, c3⟩ := i6.2 e e0 e1
            refine ⟨c1, fun s s0 s1 p z => ?_, c3.imp id ?_⟩
            · by_cases hc : e = v3 ∧ s = v4
              · rw [hc.1, hc.2] at p ⊢; exact h p
              · exact c2 s s0 s1 p (fun y => by have := z y; omega)
            · rintro ⟨s, s0, s1, s2, s3, s4⟩
              exact ⟨s, s0, s1, s2, fun y => by have := s3 y; omega, s4⟩⟩
          have upd : pal f v4 v3 → N 2 (X + 232) v4 + 1 < N 2 (X + 232) v3 → PVp v3 f (fun s e => e = v3 → s < v4 + 1) (jset N 2 (X + 232) v3 (N 2 (X + 232) v4 + 1) 2 (X + 232)) := fun p h => ⟨by rw [jset_j (by omega)]; exact i6.1, fun e e0 e1 => by
            by_cases he : e = v3
            · subst he
              rw [jset_s]
              refine ⟨by omega, fun s s0 s1 p2 z => ?_, Or.inr ⟨v4, i3, by omega, p, fun _ => by omega, by rw [jset_j (by omega)]⟩⟩
              rw [jset_j (by omega)]
              by_cases hs : s = v4
              · rw [hs]; omega
              · have := b2 s s0 s1 p2 (fun _ => by have := z rfl; omega); omega
            · obtain ⟨c1, c2, c3⟩ := i6.2 e e0 e1
              rw [jset_j he]
              refine ⟨c1, fun s s0 s1 p2 z => ?_, c3.imp id ?_⟩
              · rw [jset_j (by omega)]; exact c2 s s0 s1 p2 (fun y => absurd y he)
              · rintro ⟨s, s0, s1, s2, s3, s4⟩
                exact ⟨s, s0, s1, s2, fun y => absurd y he, by rw [jset_j (by omega)]; exact s4⟩⟩
          refine ⟨by unfold jR; omega, fun lt => ⟨wn, fun _ => ⟨wn, ⟨rfl, by omega, by omega⟩, ⟨rfl, by omega, by omega⟩, by unfold jR; omega, ⟨rfl, rfl, rfl, i1, i2, by omega, by omega, i5, keep (fun p => absurd (pp.mpr p) (by omega))⟩, by omega⟩, fun z => absurd rfl z⟩, fun lt => ⟨wn, fun z => absurd z (by decide), fun _ => ⟨wn, ⟨rfl, by omega, by omega⟩, by unfold jR; omega, wn, ⟨rfl, by omega, by omega⟩, fun le => ⟨wn, ⟨rfl, by omega, by omega⟩, ⟨rfl, by omega, by omega⟩, by unfold jR; omega, ⟨rfl, rfl, rfl, i1, i2, by omega, by omega, i5, keep (fun _ => le)⟩, by omega⟩, fun le => ⟨wn, ⟨rfl, by omega, by omega⟩, by unfold jR; omega, ⟨rfl, by omega, by omega⟩, by unfold jR; omega, ⟨rfl, rfl, rfl, i1, i2, by omega, by omega, i5.set _ _, upd (pp.mp (by omega)) (by omega)⟩, by omega⟩⟩⟩⟩
      · refine ⟨wt, r_isT R A ht (fun _ => ⟨fun _ => ⟨wt, ?_⟩, fun q => absurd (by decide) q⟩)⟩
        rw [w_model_1301 W, w_m1301_t W, w_m1301_n W, z1, w_model_1318 W, w_m1318_t W, w_m1318_n W]
        exact ⟨⟨rfl, ht.1, z3⟩, wt, ⟨rfl, by decide, by decide⟩, ⟨rfl, rfl, rfl, by omega, by omega, (Aof.refl X 232 M1).set _ _, ⟨jset_s, fun e e0 e1 => by omega⟩⟩⟩
  · refine ⟨fun r => r = -2, fun Q hQ => ?_, ?_⟩
    · have hQ := hQ (-2) M rfl (FrC.refl X M) C H rfl rfl
      have W := C.1
      refine rn_X11_palindromes _ _ M (sg_X11_palindromes_0 _ _ M ?_)
      repeat' first | rw [wa_1200 W] | (refine c_lkF C A hX ht ?_) | apply And.intro | intro _ | exact wt | exact wa_t W | exact w_shelf_t W | assumption | exact Or.inl rfl | exact Or.inr rfl | rfl | omega | (unfold jR; omega)
    · rintro M1 Q r rfl R hQ
      have hQ := hQ M1 (FrR.refl X M1) R
      have W := R.1
      have wt := w_model_t W
      refine lp_X12_palindromes (fun _ _ _ _ _ => False) (fun _ _ _ _ => 0) (fun _ _ _ _ _ _ => False) (fun _ _ _ _ _ => 0) (fun _ _ _ _ _ g => g.elim) (fun _ _ _ _ _ _ g => g.elim) _ _ M1 ?_
      repeat' first | rw [wa_1200 W] | (refine r_isF R A ht ?_) | apply And.intro | intro _ | exact wt | exact wa_t W | exact w_shelf_t W | assumption | exact Or.inl rfl | exact Or.inr rfl | rfl | omega | (unfold jR; omega)
end PALS
