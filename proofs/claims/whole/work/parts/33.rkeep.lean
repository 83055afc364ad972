/-! the reference's keep and newText -/
theorem jcpy_in {M : JM} {a sp b dp n j : Int} (h1 : dp ≤ j) (h2 : j < dp + n) : jcpy M a sp b dp n 2 b j = M 2 a (sp + (j - dp)) := if_pos ⟨rfl, rfl, h1, h2⟩
theorem jcpy_out {M : JM} {a sp b dp n j : Int} (h : ¬ (dp ≤ j ∧ j < dp + n)) (k : Nat) (a' : Int) : jcpy M a sp b dp n k a' j = M k a' j := if_neg fun e => h e.2.2
/-- one element more is copied -/
theorem jcpy_step {M : JM} {a sp b dp n j v : Int} (h0 : 0 ≤ n) (hj : j = dp + n) (hv : v = M 2 a (sp + n)) : jset (jcpy M a sp b dp n) 2 b j v = jcpy M a sp b dp (n + 1) := jm_ext fun k a' i => by
  unfold jset jcpy
  by_cases h : k = 2 ∧ a' = b ∧ i = j
  · obtain ⟨rfl, rfl, rfl⟩ := h
    rw [if_pos ⟨rfl, rfl, rfl⟩, if_pos ⟨rfl, rfl, by omega, by omega⟩, hv, hj]
    congr 1
    omega
  · rw [if_neg h]
    by_cases g : k = 2 ∧ a' = b ∧ dp ≤ i ∧ i < dp + n
    · rw [if_pos g, if_pos ⟨g.1, g.2.1, g.2.2.1, by omega⟩]
    · rw [if_neg g, if_neg (fun q => h ⟨q.1, q.2.1, by
        have := g ∘ fun z => (⟨q.1, q.2.1, q.2.2.1, z⟩ : k = 2 ∧ a' = b ∧ dp ≤ i ∧ i < dp + n)
        have q2 := q.2.2
        omega⟩)]
theorem jcpy_none {M : JM} {a sp b dp : Int} : jcpy M a sp b dp 0 = M := jm_ext fun k a' i => if_neg fun e => by have := e.2.2; omega
def msh (M : JM) (X c : Int) : JM := fun k a j => if k = 2 ∧ (a = X + 221 ∨ a = X + 222 ∨ a = X + 223) ∧ 0 ≤ j ∧ j < c then M k a (j + 1) else M k a j
theorem msh_none {M : JM} {X : Int} : msh M X 0 = M := jm_ext fun k a' i => if_neg fun e => by have := e.2.2; omega
theorem msh_o {M : JM} {X c : Int} {k : Nat} {a j : Int} (h : ¬ (k = 2 ∧ (a = X + 221 ∨ a = X + 222 ∨ a = X + 223) ∧ 0 ≤ j ∧ j < c)) : msh M X c k a j = M k a j := if_neg h
theorem msh_i {M : JM} {X c a j : Int} (h : a = X + 221 ∨ a = X + 222 ∨ a = X + 223) (h0 : 0 ≤ j) (h1 : j < c) : msh M X c 2 a j = M 2 a (j + 1) := if_pos ⟨rfl, h, h0, h1⟩
theorem msh_step {M : JM} {X c : Int} {p q r : Int} (h0 : 0 ≤ c) (hp : p = M 2 (X + 221) (c + 1)) (hq : q = M 2 (X + 222) (c + 1)) (hr : r = M 2 (X + 223) (c + 1)) : jset (jset (jset (msh M X c) 2 (X + 221) c p) 2 (X + 222) c q) 2 (X + 223) c r = msh M X (c + 1) := jm_ext fun k a j => by
  by_cases hk : k = 2
  · subst hk
    by_cases hj : j = c
    · subst hj
      by_cases h1 : a = X + 221
      · subst h1
        rw [jset_a (by omega), jset_a (by omega), jset_s, msh_i (Or.inl rfl) h0 (by omega), hp]
      · by_cases h2 : a = X + 222
        · subst h2
          rw [jset_a (by omega), jset_s, msh_i (Or.inr (Or.inl rfl)) h0 (by omega), hq]
        · by_cases h3 : a = X + 223
          · subst h3
            rw [jset_s, msh_i (Or.inr (Or.inr rfl)) h0 (by omega), hr]
          · rw [jset_a h3, jset_a h2, jset_a h1, msh_o (by omega), msh_o (by omega)]
    · rw [jset_j hj, jset_j hj, jset_j hj]
      by_cases h1 : (a = X + 221 ∨ a = X + 222 ∨ a = X + 223) ∧ 0 ≤ j ∧ j < c
      · rw [msh_i h1.1 h1.2.1 h1.2.2, msh_i h1.1 h1.2.1 (by omega)]
      · rw [msh_o (by omega), msh_o (by omega)]
  · rw [jset_k hk, jset_k hk, jset_k hk, msh_o (by omega), msh_o (by omega)]
noncomputable def kbase (M : JM) (X c : Int) : JM := if c = 20 then jset (jcpy (msh M X 19) (X + 224) 240 (X + 224) 0 4560) 3203 (X + 218) 0 19 else M
noncomputable def kidx (c : Int) : Int := if c = 20 then 19 else c
def kent (B : JM) (X c t b l : Int) : JM := jset (jset (jset B 2 (X + 221) c t) 2 (X + 222) c b) 2 (X + 223) c l
/-- only the reference's kept changes have changed -/
def Kof (X : Int) (M M' : JM) : Prop := ∀ k a j, ¬ (k = 2 ∧ X + 221 ≤ a ∧ a ≤ X + 224) → ¬ (k = 3203 ∧ a = X + 218) → M' k a j = M k a j
theorem Kof.trans {X : Int} {M M' M'' : JM} (h : Kof X M M') (g : Kof X M' M'') : Kof X M M'' := fun k a j h1 h2 => (g k a j h1 h2).trans (h k a j h1 h2)
theorem Kof.W {X : Int} {M M' : JM} (h : Kof X M M') (W : WSt X M) : WSt X M' := W.keep fun k a j _ _ hk => h k a j (by omega) (by omega)
theorem kof_msh (M : JM) (X c : Int) : Kof X M (msh M X c) := fun k a j h _ => msh_o (by omega)
theorem kof_cpy (M : JM) (X s sp dp n : Int) : Kof X M (jcpy M s sp (X + 224) dp n) := fun k a j h _ => if_neg fun e => h ⟨e.1, by omega, by omega⟩
theorem kof_set {M : JM} {X a : Int} (j v : Int) (h : X + 221 ≤ a ∧ a ≤ X + 224) : Kof X M (jset M 2 a j v) := fun k a' i g _ => if_neg fun e => g ⟨e.1, by omega, by omega⟩
theorem kof_num (M : JM) (X v : Int) : Kof X M (jset M 3203 (X + 218) 0 v) := fun k a i _ g => if_neg fun e => g ⟨e.1, e.2.1⟩
theorem kof_base (M : JM) (X c : Int) : Kof X M (kbase M X c) := by
  unfold kbase
  split
  · exact ((kof_msh M X 19).trans (kof_cpy _ X _ _ _ _)).trans (kof_num _ X _)
  · exact fun _ _ _ _ _ => rfl
theorem kof_ent {B : JM} {X : Int} (c t b l : Int) : Kof X B (kent B X c t b l) := ((kof_set c t (by omega)).trans (kof_set c b (by omega))).trans (kof_set c l (by omega))
theorem kbase_n {M : JM} {X c : Int} (h : M 3203 (X + 218) 0 = c) : kbase M X c 3203 (X + 218) 0 = kidx c := by
  unfold kbase kidx
  by_cases hc : c = 20
  · rw [if_pos hc, if_pos hc, jset_s]
  · rw [if_neg hc, if_neg hc]; exact h
theorem kbase_e {M : JM} {X c a k : Int} (ha : a = X + 221 ∨ a = X + 222 ∨ a = X + 223) (h0 : 0 ≤ k) (h1 : k < kidx c) : kbase M X c 2 a k = M 2 a (if c = 20 then k + 1 else k) := by
  unfold kbase kidx at *
  by_cases hc : c = 20
  · rw [if_pos hc] at h1
    rw [if_pos hc, if_pos hc, jset_k (by decide), jcpy_a (by omega), msh_i ha h0 h1]
  · rw [if_neg hc, if_neg hc]
theorem kbase_u {M : JM} {X c k i : Int} (h0 : 0 ≤ k) (h1 : k < kidx c) (h2 : 0 ≤ i) (h3 : i < 240) : kbase M X c 2 (X + 224) (240 * k + i) = M 2 (X + 224) (240 * (if c = 20 then k + 1 else k) + i) := by
  unfold kbase kidx at *
  by_cases hc : c = 20
  · rw [if_pos hc] at h1
    rw [if_pos hc, if_pos hc, jset_k (by decide), jcpy_in (by omega) (by omega), msh_o (by omega)]
    congr 1
    omega
  · rw [if_neg hc, if_neg hc]
/-- the ring behind keep -/
noncomputable def mrk (M : JM) (X c t b l : Int) : JM := jset (jcpy (kent (kbase M X c) X (kidx c) t b l) (X + 220) (240 * t) (X + 224) (240 * kidx c) l) 3203 (X + 218) 0 (kidx c + 1)
theorem kpush_1 {K : AKp} {t b l : Int} {u : Int → Int} : (kpush K t b l u).1 = kidx K.1 + 1 := by
  unfold kpush kidx
  split <;> rfl
theorem kpush_o {K : AKp} {t b l k : Int} {u : Int → Int} (h : k ≠ kidx K.1) : (kpush K t b l u).2.1 k = K.2.1 (if K.1 = 20 then k + 1 else k) ∧ (kpush K t b l u).2.2.1 k = K.2.2.1 (if K.1 = 20 then k + 1 else k) ∧ (kpush K t b l u).2.2.2.1 k = K.2.2.2.1 (if K.1 = 20 then k + 1 else k) ∧ (kpush K t b l u).2.2.2.2 k = K.2.2.2.2 (if K.1 = 20 then k + 1 else k) := by
  unfold kpush kidx at *
  by_cases hc : K.1 = 20
  · rw [if_pos hc] at h
    rw [if_pos hc, if_pos hc]
    exact ⟨if_neg h, if_neg h, if_neg h, if_neg h⟩
  · rw [if_neg hc] at h
    rw [if_neg hc, if_neg hc]
    exact ⟨if_neg h, if_neg h, if_neg h, if_neg h⟩
theorem kpush_s {K : AKp} {t b l : Int} {u : Int → Int} : (kpush K t b l u).2.1 (kidx K.1) = t ∧ (kpush K t b l u).2.2.1 (kidx K.1) = b ∧ (kpush K t b l u).2.2.2.1 (kidx K.1) = l ∧ (kpush K t b l u).2.2.2.2 (kidx K.1) = u := by
  unfold kpush kidx
  by_cases hc : K.1 = 20
  · rw [if_pos hc, if_pos hc]
    refine ⟨?_, ?_, ?_, ?_⟩ <;> dsimp only <;> rw [if_pos rfl]
  · rw [if_neg hc, if_neg hc]
    refine ⟨?_, ?_, ?_, ?_⟩ <;> dsimp only <;> rw [if_pos rfl]
theorem RK.push {M : JM} {X t b l m : Int} {K : AKp} {u : Int → Int} (R : RK X M K) (B : AK m K) (hl : b = 0 → ∀ i, 0 ≤ i → i < l → M 2 (X + 220) (240 * t + i) = u i) (hl2 : l ≤ 240) : RK X (mrk M X K.1 t b l) (kpush K t b l u) := by
  obtain ⟨b1, b2, g, -, b3⟩ := B
  refine ⟨by rw [kpush_1]; exact jset_s, fun k k0 k1 => ?_⟩
  rw [kpush_1] at k1
  unfold mrk
  rw [jset_k (show 2 ≠ 3203 by decide), jset_k (show 2 ≠ 3203 by decide), jset_k (show 2 ≠ 3203 by decide), jcpy_a (show X + 221 ≠ X + 224 by omega), jcpy_a (show X + 222 ≠ X + 224 by omega), jcpy_a (show X + 223 ≠ X + 224 by omega)]
  by_cases hk : k = kidx K.1
  · obtain ⟨e1, e2, e3, e4⟩ := @kpush_s K t b l u
    subst hk
    rw [e1, e2, e3, e4]
    unfold kent
    refine ⟨by rw [jset_a (by omega), jset_a (by omega), jset_s], by rw [jset_a (by omega), jset_s], fun hb => ⟨jset_s, fun i i0 i1 => ?_⟩⟩
    rw [jset_k (by decide), jcpy_in (by omega) (by omega), jset_a (by omega), jset_a (by omega), jset_a (by omega), kof_base M X K.1 2 _ _ (by omega) (by omega), ← hl hb i i0 i1]
    congr 1
    omega
  · obtain ⟨e1, e2, e3, e4⟩ := @kpush_o K t b l k u hk
    have hc : K.1 = 20 ∨ K.1 ≠ 20 := Decidable.em _
    have hki : k < kidx K.1 := by omega
    have hk' : 0 ≤ (if K.1 = 20 then k + 1 else k) ∧ (if K.1 = 20 then k + 1 else k) < K.1 := by
      unfold kidx at hki
      by_cases hc : K.1 = 20
      · rw [if_pos hc] at hki ⊢; omega
      · rw [if_neg hc] at hki ⊢; omega
    obtain ⟨r1, r2, r3⟩ := R.2 _ hk'.1 hk'.2
    rw [e1, e2, e3, e4]
    unfold kent
    refine ⟨?_, ?_, fun hb => ⟨?_, fun i i0 i1 => ?_⟩⟩
    · rw [jset_a (by omega), jset_a (by omega), jset_j hk, kbase_e (Or.inl rfl) k0 hki]; exact r1
    · rw [jset_a (by omega), jset_j hk, jset_a (by omega), kbase_e (Or.inr (Or.inl rfl)) k0 hki]; exact r2
    · rw [jset_j hk, jset_a (by omega), jset_a (by omega), kbase_e (Or.inr (Or.inr rfl)) k0 hki]; exact (r3 hb).1
    · have hi : i < 240 := by
        have := (b3 _ hk'.1 hk'.2).2
        rcases this with q | q
        · omega
        · have := q.2.2.2.2.2.1; omega
      rw [jset_k (by decide), jcpy_out (by omega), jset_a (by omega), jset_a (by omega), jset_a (by omega), kbase_u k0 hki i0 hi]
      exact (r3 hb).2 i i0 i1
theorem kof_mrk (M : JM) (X c t b l : Int) : Kof X M (mrk M X c t b l) := (((kof_base M X c).trans (kof_ent _ _ _ _)).trans (kof_cpy _ _ _ _ _ _)).trans (kof_num _ _ _)
section RKEEP
variable {G : JG} {Q : Int → JM → Prop} {M : JM} {X : Int}
set_option maxHeartbeats 1000000 in
theorem r_keep {t b l : Int} {T : ATx} {K : AKp} (W : WSt X M) (R : RT X M T) (A : AT T) (RKK : RK X M K) (B : AK T.1 K) (h0 : 0 ≤ t) (ht : t < 40) (hb : (b = 1 ∧ l = 0) ∨ (b = 0 ∧ t < T.1 ∧ l = T.2.1 t)) (h : ∀ M', Kof X M M' → RK X M' (kpush K t b l (T.2.2 t)) → Q 0 M') : Runs G 175 0 0 [(1, X + 218), (0, t), (0, b)] M Q := by
  obtain ⟨b1, b2, g, -, b3⟩ := id B
  have rn := RKK.1
  have hl : 0 ≤ l ∧ l ≤ 240 := by
    rcases hb with q | q
    · omega
    · obtain ⟨u1, u2, -⟩ := A.2.2 t h0 q.2.1; omega
  have hci : 0 ≤ kidx K.1 ∧ kidx K.1 < 20 := by unfold kidx; split <;> omega
  have fin : Q 0 (mrk M X K.1 t b l) := h _ (kof_mrk M X K.1 t b l) (RKK.push B (fun q i i0 i1 => by
    rcases hb with q2 | q2
    · omega
    · exact (R.2 t h0 q2.2.1).2 i i0 (by omega)) hl.2)
  have WB : WSt X (kbase M X K.1) := (kof_base M X K.1).W W
  have ent : ∀ N : JM, N = kbase M X K.1 → M 2 (X + 219) t = l ∨ b = 1 → True := fun _ _ _ => trivial
  refine lp_X12_keep (fun v0 v1 v2 v3 N => v0 = X + 218 ∧ v1 = t ∧ v2 = b ∧ K.1 = 20 ∧ 1 ≤ v3 ∧ v3 ≤ 20 ∧ N = msh M X (v3 - 1)) (fun _ _ _ v3 => (20000 - v3).toNat) (fun v0 v1 v2 v3 N => v0 = X + 218 ∧ v1 = t ∧ v2 = b ∧ K.1 = 20 ∧ 240 ≤ v3 ∧ v3 ≤ 4800 ∧ N = jcpy (msh M X 19) (X + 224) 240 (X + 224) 0 (v3 - 240)) (fun _ _ _ v3 => (10000 - v3).toNat) (fun v0 v1 v3 N => v0 = X + 218 ∧ v1 = t ∧ 0 ≤ v3 ∧ v3 ≤ l ∧ N = jcpy (kent (kbase M X K.1) X (kidx K.1) t b l) (X + 220) (240 * t) (X + 224) (240 * kidx K.1) v3) (fun _ _ v3 => (1000 - v3).toNat) ?_ ?_ ?_ _ _ _ M ?_
  · rintro v0 v1 v2 v3 N ⟨rfl, rfl, rfl, hc, i1, i2, rfl⟩
    have WN := (kof_msh M X (v3 - 1)).W W
    have kn : ∀ k, 0 ≤ k → k < 20 → (M 2 (X + 222) k = 0 ∨ M 2 (X + 222) k = 1) := fun k k0 k1 => by
      have e := (RKK.2 k k0 (by omega)).2.1
      have := (b3 k k0 (by omega)).2
      omega
    refine ⟨fun g => ⟨⟨rfl, rfl, rfl, hc, by omega, by omega, ?_⟩, by omega⟩, fun g => ?_⟩
    · have : v3 = 20 := by omega
      subst this
      exact jcpy_none.symm
    · rw [w_model_1304 WN, w_model_1305 WN, w_model_1306 WN, w_m1304_t WN, w_m1304_n WN, w_m1305_t WN, w_m1305_n WN, w_m1306_t WN, w_m1306_n WN]
      have y1 : msh M X (v3 - 1) 2 (X + 221) v3 = M 2 (X + 221) v3 := msh_o (by omega)
      have y2 : msh M X (v3 - 1) 2 (X + 222) v3 = M 2 (X + 222) v3 := msh_o (by omega)
      have y3 : msh M X (v3 - 1) 2 (X + 223) v3 = M 2 (X + 223) v3 := msh_o (by omega)
      rw [jset_a (show X + 222 ≠ X + 221 by omega), jset_a (show X + 223 ≠ X + 222 by omega), jset_a (show X + 223 ≠ X + 221 by omega), y1, y2, y3]
      have e := @msh_step M X (v3 - 1) _ _ _ (by omega) rfl rfl rfl
      rw [Int.sub_add_cancel] at e
      rw [e]
      have wt := w_model_t WN
      exact ⟨wt, by unfold jR; omega, wt, ⟨rfl, by omega, by omega⟩, ⟨rfl, by omega, by omega⟩, wt, by unfold jR; omega, wt, ⟨rfl, by omega, by omega⟩, ⟨rfl, by omega, by omega, kn v3 (by omega) (by omega)⟩, wt, by unfold jR; omega, wt, ⟨rfl, by omega, by omega⟩, ⟨rfl, by omega, by omega⟩, by unfold jR; omega, ⟨rfl, rfl, rfl, hc, by omega, by omega, by rw [show v3 + 1 - 1 = v3 by omega]⟩, by omega⟩
  · rintro v0 v1 v2 v3 N ⟨rfl, rfl, rfl, hc, i1, i2, rfl⟩
    have kN := (kof_msh M X 19).trans (kof_cpy (msh M X 19) X (X + 224) 240 0 (v3 - 240))
    have WN := kN.W W
    have wt := w_model_t WN
    have ek : kidx K.1 = 19 := if_pos hc
    refine ⟨fun g => ?_, fun g => ?_⟩
    · have : v3 = 4800 := by omega
      subst this
      have en : jcpy (msh M X 19) (X + 224) 240 (X + 224) 0 (4800 - 240) 3203 (X + 218) 0 = 20 := by
        rw [jcpy_k (by decide), msh_o (by omega), rn, hc]
      have eb : jset (jcpy (msh M X 19) (X + 224) 240 (X + 224) 0 (4800 - 240)) 3203 (X + 218) 0 (20 - 1) = kbase M X K.1 := (if_pos hc).symm
      have ekb : kbase M X K.1 3203 (X + 218) 0 = 19 := by rw [kbase_n rn, ek]
      rw [en, eb, ekb, w_model_1304 WN, w_model_1305 WN, w_model_1306 WN, w_model_1301 WN, w_m1304_t WN, w_m1304_n WN, w_m1305_t WN, w_m1305_n WN, w_m1306_t WN, w_m1306_n WN, w_m1301_t WN, w_m1301_n WN, jset_a (show X + 219 ≠ X + 222 by omega), jset_a (show X + 219 ≠ X + 221 by omega), kof_base M X K.1 2 (X + 219) v1 (by omega) (by omega)]
      refine ⟨wt, by unfold jR; omega, wt, wt, wt, ⟨rfl, by decide, by decide⟩, wt, wt, ⟨rfl, by decide, by decide, by omega⟩, wt, wt, fun g2 => ⟨wt, ⟨rfl, h0, ht⟩, ⟨rfl, by decide, by decide⟩, ⟨rfl, rfl, by omega, by omega, ?_⟩, by omega⟩, fun g2 => ⟨⟨rfl, by decide, by decide⟩, ⟨rfl, rfl, by omega, by omega, ?_⟩, by omega⟩⟩
      · have q : v1 < T.1 ∧ l = T.2.1 v1 := by omega
        rw [jcpy_none, ek, (R.2 v1 h0 q.1).1, ← q.2]; rfl
      · have q : l = 0 := by omega
        subst q
        rw [jcpy_none, ek]; rfl
    · rw [w_model_1307 WN, w_m1307_t WN, w_m1307_n WN]
      have e := @jcpy_step (msh M X 19) (X + 224) 240 (X + 224) 0 (v3 - 240) (v3 - 240) (jcpy (msh M X 19) (X + 224) 240 (X + 224) 0 (v3 - 240) 2 (X + 224) v3) (by omega) (by omega) (by rw [jcpy_out (by omega)]; congr 1; omega)
      rw [e]
      exact ⟨wt, by unfold jR; omega, wt, ⟨rfl, by omega, by omega⟩, ⟨rfl, by omega, by omega⟩, by unfold jR; omega, ⟨rfl, rfl, rfl, hc, by omega, by omega, by rw [show v3 + 1 - 240 = v3 - 240 + 1 by omega]⟩, by omega⟩
  · rintro v0 v1 v3 N ⟨rfl, rfl, i1, i2, rfl⟩
    have kN := ((kof_base M X K.1).trans (kof_ent (X := X) (kidx K.1) v1 b l)).trans (kof_cpy _ X (X + 220) (240 * v1) (240 * kidx K.1) v3)
    have WN := kN.W W
    have wt := w_model_t WN
    have en : jcpy (kent (kbase M X K.1) X (kidx K.1) v1 b l) (X + 220) (240 * v1) (X + 224) (240 * kidx K.1) v3 3203 (X + 218) 0 = kidx K.1 := by
      rw [jcpy_k (by decide)]
      unfold kent
      rw [jset_k (by decide), jset_k (by decide), jset_k (by decide)]
      exact kbase_n rn
    have el : jcpy (kent (kbase M X K.1) X (kidx K.1) v1 b l) (X + 220) (240 * v1) (X + 224) (240 * kidx K.1) v3 2 (X + 223) (kidx K.1) = l := by
      rw [jcpy_a (by omega)]
      exact jset_s
    rw [en, w_model_1306 WN, w_m1306_t WN, w_m1306_n WN, el]
    refine ⟨wt, wt, ⟨rfl, by omega, by omega⟩, fun g => ⟨wt, by unfold jR; omega, wt, ?_⟩, fun g => ⟨wt, wt, by unfold jR; omega, by unfold jR; omega, wt, ?_⟩⟩
    · have : v3 = l := by omega
      subst this
      exact fin
    · have q : v1 < T.1 ∧ l = T.2.1 v1 := by omega
      have RN : RT X (jcpy (kent (kbase M X K.1) X (kidx K.1) v1 b l) (X + 220) (240 * v1) (X + 224) (240 * kidx K.1) v3) T := ⟨by rw [kN 3200 _ _ (by omega) (by omega)]; exact R.1, fun s g1 g2 => ⟨by rw [kN 2 _ _ (by omega) (by omega)]; exact (R.2 s g1 g2).1, fun i g3 g4 => by rw [kN 2 _ _ (by omega) (by omega)]; exact (R.2 s g1 g2).2 i g3 g4⟩⟩
      refine r_unit WN RN A h0 q.1 i1 (by omega) (fun _ => ?_)
      rw [w_model_1307 WN, w_m1307_t WN, w_m1307_n WN]
      refine ⟨⟨rfl, by omega, by omega⟩, by unfold jR; omega, ⟨rfl, rfl, by omega, by omega, ?_⟩, by omega⟩
      refine jcpy_step (by omega) (by omega) ?_
      unfold kent
      rw [jset_a (by omega), jset_a (by omega), jset_a (by omega), kof_base M X K.1 2 (X + 220) _ (by omega) (by omega)]
      exact ((R.2 v1 h0 q.1).2 v3 i1 (by omega)).symm
  · rw [rn, w_model_1304 W, w_model_1305 W, w_model_1306 W, w_model_1301 W, w_m1304_t W, w_m1304_n W, w_m1305_t W, w_m1305_n W, w_m1306_t W, w_m1306_n W, w_m1301_t W, w_m1301_n W, jset_a (show X + 219 ≠ X + 222 by omega), jset_a (show X + 219 ≠ X + 221 by omega)]
    have wt := w_model_t W
    refine ⟨wt, fun g => ?_, fun g => ⟨rfl, rfl, rfl, by omega, by omega, by omega, ?_⟩⟩
    · have ek : kidx K.1 = K.1 := if_neg g
      have eb : kbase M X K.1 = M := if_neg g
      refine ⟨wt, wt, ⟨rfl, by omega, by omega⟩, wt, wt, ⟨rfl, by omega, by omega, by omega⟩, wt, wt, fun g2 => ⟨wt, ⟨rfl, h0, ht⟩, ⟨rfl, by omega, by omega⟩, ⟨rfl, rfl, by omega, by omega, ?_⟩⟩, fun g2 => ⟨⟨rfl, by omega, by omega⟩, ⟨rfl, rfl, by omega, by omega, ?_⟩⟩⟩
      · have q : t < T.1 ∧ l = T.2.1 t := by omega
        rw [jcpy_none, ek, eb, (R.2 t h0 q.1).1, ← q.2]; rfl
      · have q : l = 0 := by omega
        subst q
        rw [jcpy_none, ek, eb]; rfl
    · exact msh_none.symm
end RKEEP
