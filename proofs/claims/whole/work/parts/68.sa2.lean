/-! the suffixes of one text, or of all -/
theorem second_ok {F od sp : Int → Int} {n st : Int} (h0 : 1 ≤ st ∧ st < n) (hF : ∀ i, 0 ≤ F i) (hz : ∀ i, n ≤ i → F i = 0) (hp : Prm n od) (hs : Srt F st n od) (s1 : ∀ y, 0 ≤ y → y < st → sp y = n - st + y) (s2 : ∀ r, 0 ≤ r → r < n → st ≤ od r → sp (st + cntI (fun q => st ≤ od q) r) = od r - st) : Prm n sp ∧ ∀ y z, 0 ≤ y → y < z → z < n → ¬ lsh F st (sp z + st) (sp y + st) := by
  have ca : cntI (fun q => st ≤ od q) n = n - st := by
    have b := Prm_cntI hp (m := st) (by omega) (by omega)
    have c : cntI (fun q => od q < st ∨ st ≤ od q) n = cntI (fun q => od q < st) n + cntI (fun q => st ≤ od q) n := cntI_split n (fun i z => by omega)
    have d : ∀ k : Nat, cntI (fun q => od q < st ∨ st ≤ od q) (k : Int) = k := fun k => by
      induction k with
      | zero => exact cntI_z (by omega)
      | succ k ih => rw [show ((k + 1 : Nat) : Int) = (k : Int) + 1 by omega, cntI_t (p := fun q => od q < st ∨ st ≤ od q) (by omega) (by omega), ih]
    have e := d n.toNat
    rw [show (n.toNat : Int) = n by omega] at e
    omega
  have hit : ∀ y, st ≤ y → y < n → ∃ r, 0 ≤ r ∧ r < n ∧ st ≤ od r ∧ cntI (fun q => st ≤ od q) r = y - st ∧ sp y = od r - st := fun y y0 y1 => by
    obtain ⟨r, r0, r1, r2, r3⟩ := cnt_hit (p := fun q => st ≤ od q) n.toNat (y - st) (by omega) (by rw [show (n.toNat : Int) = n by omega, ca]; omega)
    refine ⟨r, r0, by omega, r2, r3, ?_⟩
    have := s2 r r0 (by omega) r2
    rw [r3, show st + (y - st) = y by omega] at this
    exact this
  constructor
  · refine Prm_of (by omega) (fun y y0 y1 => ?_) (fun y z y0 y1 z0 z1 e => ?_)
    · rcases Int.lt_or_le y st with c | c
      · rw [s1 y y0 c]; omega
      · obtain ⟨r, r0, r1, r2, r3, r4⟩ := hit y c y1
        have := hp.1 r r0 r1
        rw [r4]; omega
    · rcases Int.lt_or_le y st with c | c
      · rcases Int.lt_or_le z st with d | d
        · rw [s1 y y0 c, s1 z z0 d] at e; omega
        · obtain ⟨r, r0, r1, r2, r3, r4⟩ := hit z d z1
          have := hp.1 r r0 r1
          rw [s1 y y0 c, r4] at e; omega
      · obtain ⟨q, q0, q1, q2, q3, q4⟩ := hit y c y1
        rcases Int.lt_or_le z st with d | d
        · have := hp.1 q q0 q1
          rw [s1 z z0 d, q4] at e; omega
        · obtain ⟨r, r0, r1, r2, r3, r4⟩ := hit z d z1
          rw [q4, r4] at e
          have := hp.2.1 q r q0 q1 r0 r1 (by omega)
          subst this
          omega
  · intro y z y0 yz z1 l
    rcases Int.lt_or_le y st with c | c
    · obtain ⟨k, k0, k1, k2, k3⟩ := l
      rw [s1 y y0 c, hz (n - st + y + st + k) (by omega)] at k3
      have := hF (sp z + st + k)
      omega
    · obtain ⟨q, q0, q1, q2, q3, q4⟩ := hit y c (by omega)
      obtain ⟨r, r0, r1, r2, r3, r4⟩ := hit z (by omega) z1
      rw [q4, r4, show od r - st + st = od r by omega, show od q - st + st = od q by omega] at l
      have qr : q < r := by
        rcases Int.lt_or_le q r with d | d
        · exact d
        · have := @cntI_mono (fun q => st ≤ od q) r q r0 d
          omega
      exact hs q r q0 qr r1 l
theorem pd_n {n i : Int} {f : Int → Int} (hf : ∀ k, 0 ≤ k → k < n → 0 ≤ f k) : 0 ≤ pd n f i := by
  unfold pd
  by_cases z : 0 ≤ i ∧ i < n
  · rw [if_pos z]; have := hf i z.1 z.2; omega
  · rw [if_neg z]; omega
theorem eqh_1 {n i j : Int} {f : Int → Int} (i0 : 0 ≤ i) (i1 : i < n) (j0 : 0 ≤ j) (j1 : j < n) : f i = f j ↔ eqh (pd n f) 1 i j := by
  constructor
  · intro e k k0 k1
    rw [show k = 0 by omega, show i + 0 = i by omega, show j + 0 = j by omega, pd_in i0 i1, pd_in j0 j1, e]
  · intro e
    have a := e 0 (by omega) (by omega)
    rw [show i + 0 = i by omega, show j + 0 = j by omega, pd_in i0 i1, pd_in j0 j1] at a
    omega
/-- twice as many signs -/
theorem two_ok {n st : Int} {f od R : Int → Int} (hf : ∀ k, 0 ≤ k → k < n → 0 ≤ f k) (h0 : 1 ≤ st) (hp : Prm n od) (hs : Srt (pd n f) st n od) (hR : ∀ r, 0 ≤ r → r < n → R (od r) = chg (pd n f) st od (r + 1)) {i j : Int} (i0 : 0 ≤ i) (i1 : i < n) (j0 : 0 ≤ j) (j1 : j < n) : (R i = R j ∧ (if i + st < n then R (i + st) else -1) = (if j + st < n then R (j + st) else -1)) ↔ eqh (pd n f) (st * 2) i j := by
  have iff : ∀ x y, 0 ≤ x → x < n → 0 ≤ y → y < n → (R x = R y ↔ eqh (pd n f) st x y) := fun x y x0 x1 y0 y1 => by
    refine ⟨fun e => ?_, (rank_ok (by omega) hp hs hR x0 x1 y0 y1).2⟩
    rcases @lsh_triI (pd n f) st x y (by omega) with c | c | c
    · have := (rank_ok (by omega) hp hs hR x0 x1 y0 y1).1 c; omega
    · exact c
    · have := (rank_ok (by omega) hp hs hR y0 y1 x0 x1).1 c; omega
  have rn : ∀ x, 0 ≤ x → x < n → 0 ≤ R x := fun x x0 x1 => by
    obtain ⟨r, r0, r1, rfl⟩ := hp.2.2 x x0 x1
    rw [hR r r0 r1]
    have := (@chg_le (pd n f) st od r.toNat).1
    rw [show (r.toNat : Int) = r by omega] at this
    exact this
  rw [eqh_2 (by omega), iff i j i0 i1 j0 j1]
  refine and_congr Iff.rfl ?_
  by_cases c : i + st < n
  · rw [if_pos c]
    by_cases d : j + st < n
    · rw [if_pos d]; exact iff _ _ (by omega) c (by omega) d
    · rw [if_neg d]
      refine ⟨fun z => by have := rn (i + st) (by omega) c; omega, fun z => ?_⟩
      have a := z 0 (by omega) (by omega)
      rw [pd_in (show 0 ≤ i + st + 0 by omega) (by omega), pd_out (show n ≤ j + st + 0 by omega)] at a
      have := hf (i + st + 0) (by omega) (by omega)
      omega
  · rw [if_neg c]
    by_cases d : j + st < n
    · rw [if_pos d]
      refine ⟨fun z => by have := rn (j + st) (by omega) d; omega, fun z => ?_⟩
      have a := z 0 (by omega) (by omega)
      rw [pd_out (show n ≤ i + st + 0 by omega), pd_in (show 0 ≤ j + st + 0 by omega) (by omega)] at a
      have := hf (j + st + 0) (by omega) (by omega)
      omega
    · rw [if_neg d]
      exact ⟨fun _ k k0 k1 => by rw [pd_out (by omega), pd_out (by omega)], fun _ => rfl⟩
theorem two_srt {n st : Int} {f od od' sp R : Int → Int} (hf : ∀ k, 0 ≤ k → k < n → 0 ≤ f k) (h0 : 1 ≤ st) (hn : 0 ≤ n) (hp : Prm n od) (hs : Srt (pd n f) st n od) (hR : ∀ r, 0 ≤ r → r < n → R (od r) = chg (pd n f) st od (r + 1)) (hsp : Prm n sp) (h2 : ∀ y z, 0 ≤ y → y < z → z < n → ¬ lsh (pd n f) st (sp z + st) (sp y + st)) (ho : ∀ r, 0 ≤ r → r < n → od' (psn n (fun q => R (sp q)) r) = sp r) : Srt (pd n f) (st * 2) n od' := by
  intro y z y0 yz z1 l
  obtain ⟨r, q, r0, r1, q0, q1, e1, e2, c⟩ := put_ord hn ho y0 yz z1
  rw [e1, e2] at l
  have b1 := hsp.1 r r0 r1
  have b2 := hsp.1 q q0 q1
  rcases lsh_2 (by omega) l with d | d
  · have := (rank_ok (by omega) hp hs hR b2.1 b2.2 b1.1 b1.2).1 d
    have c : R (sp r) < R (sp q) ∨ (R (sp r) = R (sp q) ∧ r < q) := c
    omega
  · have e := (rank_ok (by omega) hp hs hR b2.1 b2.2 b1.1 b1.2).2 d.1
    have c : R (sp r) < R (sp q) ∨ (R (sp r) = R (sp q) ∧ r < q) := c
    exact h2 r q r0 (by omega) q1 d.2
/-- the order at last -/
theorem last_ok {n st : Int} {f od R : Int → Int} (hf : ∀ k, 0 ≤ k → k < n → 0 ≤ f k) (h0 : 1 ≤ st) (hn : 0 ≤ n) (hp : Prm n od) (hs : Srt (pd n f) st n od) (hR : ∀ r, 0 ≤ r → r < n → R (od r) = chg (pd n f) st od (r + 1)) (hl : n ≤ st ∨ n ≤ chg (pd n f) st od n + 1) : (∀ i, 0 ≤ i → i < n → R i = rk n f i) ∧ ∀ i, 0 ≤ i → i < n → od (rk n f i) = i := by
  have ro : ∀ r, 0 ≤ r → r < n → R (od r) = r := fun r r0 r1 => by
    rw [hR r r0 r1]
    rcases hl with z | z
    · have a := @chg_dist (pd n f) st n od (fun q q0 q1 e => by
        have b1 := hp.1 q (by omega) q1
        have b2 := hp.1 (q - 1) (by omega) (by omega)
        rcases Int.lt_trichotomy (od q) (od (q - 1)) with c | c | c
        · exact pd_ne hf z b1.1 c b2.2 e
        · have := hp.2.1 q (q - 1) (by omega) q1 (by omega) (by omega) c; omega
        · exact pd_ne hf z b2.1 c b1.2 (eqh_symm e)) r.toNat (by omega)
      rw [show (r.toNat : Int) = r by omega] at a
      exact a
    · have a := (@chg_le (pd n f) st od (n - 1).toNat).2
      rw [show ((n - 1).toNat : Int) + 1 = n by omega] at a
      exact chg_all (by omega) r0 r1
  have rp : Prm n R := by
    refine Prm_of hn (fun x x0 x1 => ?_) (fun x y x0 x1 y0 y1 e => ?_)
    · obtain ⟨r, r0, r1, rfl⟩ := hp.2.2 x x0 x1
      rw [ro r r0 r1]; exact ⟨r0, r1⟩
    · obtain ⟨r, r0, r1, rfl⟩ := hp.2.2 x x0 x1
      obtain ⟨q, q0, q1, rfl⟩ := hp.2.2 y y0 y1
      rw [ro r r0 r1, ro q q0 q1] at e
      rw [e]
  have ls : ∀ i j, 0 ≤ i → i < n → 0 ≤ j → j < n → (R i < R j ↔ sls n f i j) := fun i j i0 i1 j0 j1 => by
    have one : ∀ i j, 0 ≤ i → i < n → 0 ≤ j → j < n → R i < R j → sls n f i j := fun i j i0 i1 j0 j1 l => by
      rcases @lsh_triI (pd n f) st i j (by omega) with c | c | c
      · exact lsh_lcp hf i0 j0 c i1
      · have := (rank_ok (by omega) hp hs hR i0 i1 j0 j1).2 c; omega
      · have := (rank_ok (by omega) hp hs hR j0 j1 i0 i1).1 c; omega
    refine ⟨one i j i0 i1 j0 j1, fun s => ?_⟩
    rcases Int.lt_trichotomy (R i) (R j) with c | c | c
    · exact c
    · have := rp.2.1 i j i0 i1 j0 j1 c
      subst this
      exact absurd s (sls_asym s)
    · exact absurd (one j i j0 j1 i0 i1 c) (sls_asym s)
  refine ⟨fun i i0 i1 => (rk_eq rp ls i0 i1).symm, fun i i0 i1 => ?_⟩
  rw [rk_eq rp ls i0 i1]
  obtain ⟨r, r0, r1, rfl⟩ := hp.2.2 i i0 i1
  rw [ro r r0 r1]
section SA2
variable {G : JG} {Q : Int → JM → Prop} {M : JM} {a cap n : Int}
theorem c_obs {f : Int → Int} (S : Sx M a cap) (hn : M 2810 a 0 = n) (n0 : 0 ≤ n ∧ n ≤ cap) (hf : ∀ k, 0 ≤ k → k < n → M 2 (a + 4) k = f k ∧ 0 ≤ f k ∧ f k < 131072) (h : ∀ M', Sof (fun b => b = a + 6 ∨ b = a + 8 ∨ b = a + 9) M M' → Prm n (M' 2 (a + 6)) → Srt (pd n f) 1 n (M' 2 (a + 6)) → Q 0 M') : Runs G 63 0 0 [(1, a)] M Q := by
  have cp := S.cp
  refine lp_X8_orderBySign (fun v0 v1 N => a = v0 ∧ 0 ≤ v1 ∧ v1 ≤ n ∧ Sof (fun b => b = a + 8) M N ∧ ∀ r, 0 ≤ r → r < v1 → N 2 (a + 8) r = r) (fun _ v1 => (n - v1).toNat) ?_ _ M ⟨rfl, by omega, by omega, Sof.refl _ M, fun r r0 r1 => by omega⟩
  rintro v0 v1 N ⟨rfl, i1, i2, i3, i4⟩
  have SN := i3.sx S
  have nN : N 2810 a 0 = n := by rw [i3 _ _ _ (by omega)]; exact hn
  rw [nN, SN.f0, SN.f7, SN.t8, SN.n8]
  refine ⟨SN.tt, fun q => ?_, fun q => ⟨SN.tt, ⟨rfl, i1, by omega⟩, by unfold jR; omega, ⟨rfl, by omega, by omega, i3.set rfl _ _, fun r r0 r1 => ?_⟩, by omega⟩⟩
  · have e : v1 = n := by omega
    subst e
    have sN : ∀ k, 0 ≤ k → k < v1 → N 2 (a + 4) k = f k ∧ 0 ≤ f k ∧ f k < 131072 := fun k k0 k1 => by rw [i3 _ _ _ (by omega)]; exact hf k k0 k1
    refine ⟨SN.tt, SN.tt, c_os (κ := fun x => f x % 256) SN nN n0 (Or.inl rfl) (fun x x0 x1 => ?_) (by omega) (fun r r0 r1 => by rw [i4 r r0 r1]; exact ⟨r0, r1⟩) (fun M1 o1 p1 _ => ?_)⟩
    · obtain ⟨y1, y2, y3⟩ := sN x x0 x1
      rw [y1, jshr_0 y2 (by unfold jR; omega), jand_255]
      exact ⟨rfl, by omega, by omega⟩
    · have S1 := o1.sx SN
      have n1 : M1 2810 a 0 = v1 := by rw [o1 _ _ _ (by omega)]; exact nN
      have s1 : ∀ k, 0 ≤ k → k < v1 → M1 2 (a + 4) k = f k ∧ 0 ≤ f k ∧ f k < 131072 := fun k k0 k1 => by rw [o1 _ _ _ (by omega)]; exact sN k k0 k1
      have idp : Prm v1 (N 2 (a + 8)) := ⟨fun r r0 r1 => by rw [i4 r r0 r1]; exact ⟨r0, r1⟩, fun q r q0 q1 r0 r1 e => by rw [i4 q q0 q1, i4 r r0 r1] at e; exact e, fun y y0 y1 => ⟨y, y0, y1, i4 y y0 y1⟩⟩
      have pm1 : Prm v1 (M1 2 (a + 6)) := put_prm n0.1 idp p1
      rw [n1, S1.f0, S1.f5, S1.f7, S1.t6, S1.n6, S1.t8, S1.n8]
      obtain ⟨N2, hN2⟩ : ∃ N2, N2 = jcpy M1 (a + 6) 0 (a + 8) 0 v1 := ⟨_, rfl⟩
      rw [← hN2]
      have o2 : Sof (fun b => b = a + 8) M1 N2 := fun k b j z => by rw [hN2]; exact if_neg (fun y => z ⟨y.1, y.2.1⟩)
      have c2 : ∀ r, 0 ≤ r → r < v1 → N2 2 (a + 8) r = M1 2 (a + 6) r := fun r r0 r1 => by rw [hN2, jcpy_in r0 (by omega), show 0 + (r - 0) = r by omega]
      have S2 := o2.sx S1
      refine ⟨S1.tt, S1.tt, S1.tt, ⟨rfl, rfl, by omega, by omega, by omega, by omega, by omega⟩, S1.tt, S1.tt, c_os (κ := fun x => f x / 256) S2 (by rw [o2 _ _ _ (by omega)]; exact n1) n0 (Or.inl rfl) (fun x x0 x1 => ?_) (by omega) (fun r r0 r1 => by rw [c2 r r0 r1]; exact pm1.1 r r0 r1) (fun M3 o3 p3 _ => ?_)⟩
      · obtain ⟨y1, y2, y3⟩ := s1 x x0 x1
        rw [o2 _ _ _ (by omega), y1, jshr_8 y2 (by unfold jR; omega), jand_511]
        show f x / 256 % 512 = f x / 256 ∧ 0 ≤ f x / 256 ∧ f x / 256 < 512
        omega
      · have pm2 : Prm v1 (N2 2 (a + 8)) := ⟨fun r r0 r1 => by rw [c2 r r0 r1]; exact pm1.1 r r0 r1, fun q r q0 q1 r0 r1 e => by rw [c2 q q0 q1, c2 r r0 r1] at e; exact pm1.2.1 q r q0 q1 r0 r1 e, fun y y0 y1 => by
          obtain ⟨r, r0, r1, r2⟩ := pm1.2.2 y y0 y1
          exact ⟨r, r0, r1, by rw [c2 r r0 r1]; exact r2⟩⟩
        refine h M3 (fun k b j z => ?_) (put_prm n0.1 pm2 p3) (fun y z y0 yz z1 l => ?_)
        · rw [o3 k b j (fun w => z ⟨w.1, by rcases w.2 with d | d; exact Or.inl d; exact Or.inr (Or.inr d)⟩), o2 k b j (fun w => z ⟨w.1, Or.inr (Or.inl w.2)⟩), o1 k b j (fun w => z ⟨w.1, by rcases w.2 with d | d; exact Or.inl d; exact Or.inr (Or.inr d)⟩), i3 k b j (fun w => z ⟨w.1, Or.inr (Or.inl w.2)⟩)]
        · obtain ⟨r, q, r0, r1, q0, q1, e1, e2, c⟩ := put_ord n0.1 p3 y0 yz z1
          have c : f (N2 2 (a + 8) r) / 256 < f (N2 2 (a + 8) q) / 256 ∨ (f (N2 2 (a + 8) r) / 256 = f (N2 2 (a + 8) q) / 256 ∧ r < q) := c
          have bz := pm2.1 q q0 q1
          have by' := pm2.1 r r0 r1
          rw [e1, e2] at l
          obtain ⟨k, k0, k1, -, k3⟩ := l
          rw [show k = 0 by omega, Int.add_zero, Int.add_zero, pd_in bz.1 bz.2, pd_in by'.1 by'.2] at k3
          rcases c with c | c
          · omega
          · obtain ⟨r', q', r0', r1', q0', q1', e1', e2', c'⟩ := put_ord n0.1 p1 (y := r) (z := q) r0 c.2 q1
            have c' : f (N 2 (a + 8) r') % 256 < f (N 2 (a + 8) q') % 256 ∨ (f (N 2 (a + 8) r') % 256 = f (N 2 (a + 8) q') % 256 ∧ r' < q') := c'
            rw [c2 r r0 r1, c2 q q0 q1, e1', e2'] at c k3
            omega
  · by_cases hr : r = v1
    · rw [hr, jset_s]
    · rw [jset_j hr]; exact i4 r r0 (by omega)
set_option maxHeartbeats 2000000 in
theorem c_arr {f : Int → Int} (S : Sx M a cap) (hn : M 2810 a 0 = n) (n0 : 0 ≤ n ∧ n ≤ cap) (hf : ∀ k, 0 ≤ k → k < n → M 2 (a + 4) k = f k ∧ 0 ≤ f k ∧ f k < 131072) (h : ∀ M', Sof (fun b => a + 6 ≤ b ∧ b ≤ a + 10) M M' → SOk M' (a + 6) (a + 7) (a + 10) n f → Q 0 M') : Runs G 62 0 0 [(1, a)] M Q := by
  have cp := S.cp
  have hf0 : ∀ k, 0 ≤ k → k < n → 0 ≤ f k := fun k k0 k1 => (hf k k0 k1).2.1
  refine lp_X8_arrange (fun v0 v1 v2 N => a = v0 ∧ 1 ≤ n ∧ 1 ≤ v2 ∧ v2 ≤ 20000 ∧ Sof (fun b => a + 6 ≤ b ∧ b ≤ a + 10) M N ∧ Prm n (N 2 (a + 6)) ∧ Srt (pd n f) v2 n (N 2 (a + 6)) ∧ (∀ r, 0 ≤ r → r < n → N 2 (a + 7) (N 2 (a + 6) r) = chg (pd n f) v2 (N 2 (a + 6)) (r + 1)) ∧ v1 = chg (pd n f) v2 (N 2 (a + 6)) n + 1) (fun _ _ v2 => (40000 - v2).toNat) ?_ _ M ?_
  · rintro v0 v1 v2 N ⟨rfl, i1, i2, i3, i4, i5, i6, i7, rfl⟩
    have SN := i4.sx S
    have nN : N 2810 a 0 = n := by rw [i4 _ _ _ (by omega)]; exact hn
    have sN : ∀ k, 0 ≤ k → k < n → N 2 (a + 4) k = f k := fun k k0 k1 => by rw [i4 _ _ _ (by omega)]; exact (hf k k0 k1).1
    have cl := @chg_le (pd n f) v2 (N 2 (a + 6)) (n - 1).toNat
    rw [show ((n - 1).toNat : Int) + 1 = n by omega] at cl
    have fin : (n ≤ v2 ∨ n ≤ chg (pd n f) v2 (N 2 (a + 6)) n + 1) → Runs G 68 0 0 [(1, a)] N (fun _ M1 => jokM M1 → Q 0 M1) := fun z => by
      obtain ⟨l1, l2⟩ := last_ok hf0 i2 n0.1 i5 i6 i7 z
      refine c_ms SN nN ⟨i1, n0.2⟩ hf0 sN (fun _ _ _ => rfl) l1 l2 i5 (fun M3 o3 p3 _ => h M3 (i4.trans (o3.mono fun b hb => by omega)) ⟨fun i i0 i1 => ?_, fun i i0 i1 => ?_, fun i i0 i1 => ?_⟩)
      · rw [o3 _ _ _ (by omega)]; exact l1 i i0 i1
      · rw [o3 _ _ _ (by omega)]; exact l2 i i0 i1
      · rw [p3 i i0 i1, o3 _ _ _ (by omega)]
    rw [nN]
    refine ⟨SN.tt, fun q => ⟨SN.tt, fin (Or.inl q)⟩, fun q => ⟨SN.tt, fun q2 => ⟨SN.tt, fin (Or.inr q2)⟩, fun q2 => ⟨SN.tt, c_ls (od := N 2 (a + 6)) SN nN n0.2 ⟨i2, by omega⟩ (fun _ _ _ => rfl) i5 (fun M3 o3 p3 p3' _ => ?_)⟩⟩⟩
    have S3 := o3.sx SN
    have n3 : M3 2810 a 0 = n := by rw [o3 _ _ _ (by omega)]; exact nN
    obtain ⟨sp1, sp2⟩ := second_ok (F := pd n f) (od := N 2 (a + 6)) (sp := M3 2 (a + 8)) (st := v2) ⟨i2, by omega⟩ (fun i => pd_n hf0) (fun i hi => pd_out hi) i5 i6 p3 p3'
    obtain ⟨od, hod⟩ : ∃ od, od = N 2 (a + 6) := ⟨_, rfl⟩
    obtain ⟨R, hR⟩ : ∃ R, R = N 2 (a + 7) := ⟨_, rfl⟩
    have R3 : ∀ r, M3 2 (a + 7) r = R r := fun r => by rw [o3 _ _ _ (by omega), hR]
    have rr : ∀ x, 0 ≤ x → x < n → 0 ≤ R x ∧ R x < chg (pd n f) v2 (N 2 (a + 6)) n + 1 := fun x x0 x1 => by
      obtain ⟨r, r0, r1, rfl⟩ := i5.2.2 x x0 x1
      rw [hR, i7 r r0 r1]
      have c := (@chg_le (pd n f) v2 (N 2 (a + 6)) r.toNat).1
      rw [show (r.toNat : Int) = r by omega] at c
      have m := @cntI_mono (fun q => 1 ≤ q ∧ ¬ eqh (pd n f) v2 (N 2 (a + 6) q) (N 2 (a + 6) (q - 1))) (r + 1) n (by omega) (by omega)
      have m : chg (pd n f) v2 (N 2 (a + 6)) (r + 1) ≤ chg (pd n f) v2 (N 2 (a + 6)) n := m
      omega
    rw [S3.f6]
    refine ⟨S3.tt, S3.tt, c_os (κ := R) S3 n3 n0 (Or.inr rfl) (fun x x0 x1 => ?_) (by omega) sp1.1 (fun M4 o4 p4 _ => ?_)⟩
    · have q := rr x x0 x1
      rw [R3, jshr_0 q.1 (by unfold jR; omega), jand_m1 (by unfold jR; omega)]
      exact ⟨rfl, q.1, q.2⟩
    · have S4 := o4.sx S3
      have n4 : M4 2810 a 0 = n := by rw [o4 _ _ _ (by omega)]; exact n3
      have pm4 : Prm n (M4 2 (a + 6)) := put_prm n0.1 sp1 p4
      have sr4 : Srt (pd n f) (v2 * 2) n (M4 2 (a + 6)) := two_srt (R := R) hf0 i2 n0.1 i5 i6 (by rw [hR]; exact i7) sp1 sp2 p4
      refine ⟨S4.tt, c_rt (F := pd n f) (od := M4 2 (a + 6)) (R := R) S4 n4 ⟨i1, n0.2⟩ ⟨i2, by omega⟩ (fun _ _ _ => rfl) (fun r _ _ => by rw [o4 _ _ _ (by omega)]; exact R3 r) pm4 (fun i j i0 i1 j0 j1 => two_ok hf0 i2 i5 i6 (by rw [hR]; exact i7) i0 i1 j0 j1) (fun M5 o5 p5 _ => ?_)⟩
      have e6 : M5 2 (a + 6) = M4 2 (a + 6) := funext fun j => o5 _ _ _ (by omega)
      exact ⟨by unfold jR; omega, ⟨rfl, i1, by omega, by omega, ((i4.trans (o3.mono fun b hb => by omega)).trans (o4.mono fun b hb => by omega)).trans (o5.mono fun b hb => by omega), by rw [e6]; exact pm4, by rw [e6]; exact sr4, by rw [e6]; exact p5, by rw [e6]⟩, by omega⟩
  · rw [hn]
    refine ⟨S.tt, fun z => ⟨S.tt, c_obs S hn n0 hf (fun M1 o1 pm1 sr1 _ => ?_)⟩, fun z => ?_⟩
    · have S1 := o1.sx S
      have n1 : M1 2810 a 0 = n := by rw [o1 _ _ _ (by omega)]; exact hn
      refine ⟨S1.tt, c_rs (F := pd n f) (od := M1 2 (a + 6)) S1 n1 ⟨by omega, n0.2⟩ (fun _ _ _ => rfl) pm1 (fun i j i0 i1 j0 j1 => ?_) (fun M2 o2 p2 _ => ?_)⟩
      · rw [o1 _ _ _ (by omega), o1 _ _ _ (by omega), (hf i i0 i1).1, (hf j j0 j1).1]
        exact eqh_1 i0 i1 j0 j1
      · have e6 : M2 2 (a + 6) = M1 2 (a + 6) := funext fun j => o2 _ _ _ (by omega)
        exact ⟨rfl, by omega, by omega, by omega, (o1.mono fun b hb => by omega).trans (o2.mono fun b hb => by omega), by rw [e6]; exact pm1, by rw [e6]; exact sr1, by rw [e6]; exact p2, by rw [e6]⟩
    · have z := Classical.not_not.mp z
      exact h M (Sof.refl _ M) ⟨fun i i0 i1 => by omega, fun i i0 i1 => by omega, fun i i0 i1 => by omega⟩
end SA2
/-- raised signs stand in the same order -/
theorem lcp_raise {n i j : Int} {f g : Int → Int} (i0 : 0 ≤ i) (j0 : 0 ≤ j) (h : ∀ k, 0 ≤ k → k < n → g k = f k + 40) : lcp2 n g n g i j = lcp2 n f n f i j := by
  apply lcp2_eq
  obtain ⟨a1, a2, a3, a4⟩ := @lcp2_is n n f f i j
  refine ⟨a1, a2, fun k k0 k1 => ?_, fun z => a4 ⟨z.1, z.2.1, ?_⟩⟩
  · rw [h _ (by omega) (by omega), h _ (by omega) (by omega), a3 k k0 k1]
  · have := z.2.2
    rw [h _ (by omega) z.1, h _ (by omega) z.2.1] at this
    omega
theorem rk_raise {n i : Int} {f g : Int → Int} (i0 : 0 ≤ i) (h : ∀ k, 0 ≤ k → k < n → g k = f k + 40) : rk n g i = rk n f i := by
  unfold rk
  refine cntI_c fun j j0 j1 => ?_
  unfold sls
  rw [lcp_raise j0 i0 h]
  have l := (@lcp2_is n n f f j i).1
  constructor
  · rintro (z | z)
    · exact Or.inl z
    · refine Or.inr ⟨z.1, z.2.1, ?_⟩
      have := z.2.2
      rw [h _ (by omega) z.1, h _ (by omega) z.2.1] at this
      omega
  · rintro (z | z)
    · exact Or.inl z
    · refine Or.inr ⟨z.1, z.2.1, ?_⟩
      rw [h _ (by omega) z.1, h _ (by omega) z.2.1]
      omega
theorem SOk.lower {M : JM} {o r s n : Int} {f g : Int → Int} (hf : ∀ k, 0 ≤ k → k < n → 0 ≤ f k) (S : SOk M o r s n g) (h : ∀ k, 0 ≤ k → k < n → g k = f k + 40) : SOk M o r s n f := by
  refine ⟨fun i i0 i1 => ?_, fun i i0 i1 => ?_, fun i i0 i1 => ?_⟩
  · rw [S.1 i i0 i1]; exact rk_raise i0 h
  · rw [← rk_raise i0 h]; exact S.2.1 i i0 i1
  · have a := S.2.2 i i0 i1
    rw [rk_raise i0 h] at a
    rw [a]
    by_cases z : rk n f i = 0
    · rw [if_pos z, if_pos z]
    · rw [if_neg z, if_neg z]
      have k := rk_r (f := f) i0 i1
      obtain ⟨j, j0, j1, j2⟩ := (rk_prm (by omega) hf).2.2 (rk n f i - 1) (by omega) (by omega)
      have b := S.2.1 j j0 j1
      rw [rk_raise j0 h, j2] at b
      rw [b]
      exact lcp_raise j0 i0 h
section HOLD
variable {G : JG} {X : Int} {M : JM}
theorem sx_one (W : WSt X M) : Sx M (X + 144) 240 := by
  unfold Sx
  rw [show X + 144 + 1 = X + 145 by omega, show X + 144 + 2 = X + 146 by omega, show X + 144 + 3 = X + 147 by omega, show X + 144 + 4 = X + 148 by omega, show X + 144 + 5 = X + 149 by omega, show X + 144 + 6 = X + 150 by omega, show X + 144 + 7 = X + 151 by omega, show X + 144 + 8 = X + 152 by omega, show X + 144 + 9 = X + 153 by omega, show X + 144 + 10 = X + 154 by omega]
  exact ⟨⟨w_suf_t W, w_suf_902 W, w_suf_903 W, w_suf_904 W, w_suf_900 W, w_suf_901 W, w_suf_905 W, w_suf_906 W, w_suf_907 W, w_suf_908 W, w_suf_909 W⟩, ⟨w_sstart_t W, w_send_t W, w_smark_t W, w_ssign_t W, w_sowner_t W, w_sordered_t W, w_sranks_t W, w_sspare_t W, w_stally_t W, w_sshared_t W⟩, ⟨w_sstart_n W, w_send_n W, w_smark_n W, w_ssign_n W, w_sowner_n W, w_sordered_n W, w_sranks_n W, w_sspare_n W, w_stally_n W, w_sshared_n W⟩, by omega, by omega⟩
/-- a text is joined -/
theorem c_join {Q : Int → JM → Prop} {a cap b t m L : Int} {f : Int → Int} (S : Sx M a cap) (hm : M 2810 a 0 = m) (m0 : 0 ≤ m) (ht : 0 ≤ t ∧ t < 40) (A : Txf M b L f) (hu : ∀ i, 0 ≤ i → i < L → 0 ≤ f i ∧ f i ≤ 65535) (hc : m + L ≤ cap) (hd2 : M 1000 b 0 < a ∨ a + 11 ≤ M 1000 b 0) (h : ∀ M', (∀ (k : Nat) (c j : Int), ¬ (k = 2 ∧ (c = a + 1 ∨ c = a + 2 ∨ c = a + 4 ∨ c = a + 5)) → ¬ (k = 2810 ∧ c = a) → M' k c j = M k c j) → M' 2810 a 0 = m + L → (∀ j, M' 2 (a + 1) j = if j = t then m else M 2 (a + 1) j) → (∀ j, M' 2 (a + 2) j = if j = t then m + L else M 2 (a + 2) j) → (∀ i, 0 ≤ i → i < L → M' 2 (a + 4) (m + i) = f i + 40 ∧ M' 2 (a + 5) (m + i) = t) → (∀ j, j < m → M' 2 (a + 4) j = M 2 (a + 4) j ∧ M' 2 (a + 5) j = M 2 (a + 5) j) → Q 0 M') : Runs G 60 0 0 [(1, a), (1, b), (0, t)] M Q := by
  have cp := S.cp
  obtain ⟨A1, A2, A3, A4, A5, A6⟩ := A
  refine lp_X8_join (fun v0 v1 v2 v3 N => a = v0 ∧ b = v1 ∧ t = v2 ∧ 0 ≤ v3 ∧ v3 ≤ L ∧ (∀ (k : Nat) (c j : Int), ¬ (k = 2 ∧ (c = a + 1 ∨ c = a + 4 ∨ c = a + 5)) → ¬ (k = 2810 ∧ c = a) → N k c j = M k c j) ∧ N 2810 a 0 = m + v3 ∧ (∀ j, N 2 (a + 1) j = if j = t then m else M 2 (a + 1) j) ∧ (∀ i, 0 ≤ i → i < v3 → N 2 (a + 4) (m + i) = f i + 40 ∧ N 2 (a + 5) (m + i) = t) ∧ ∀ j, j < m → N 2 (a + 4) j = M 2 (a + 4) j ∧ N 2 (a + 5) j = M 2 (a + 5) j) (fun _ _ _ v3 => (L - v3).toNat) ?_ _ _ _ M ?_
  · rintro v0 v1 v2 v3 N ⟨rfl, rfl, rfl, i1, i2, i3, i4, i5, i6, i7⟩
    have SN : Sx N a cap := S.keep fun k c j q => i3 k c j (by omega) (by omega)
    have e1 : N 1000 b 0 = M 1000 b 0 := i3 _ _ _ (by omega) (by omega)
    rw [e1, i3 0 b 0 (by omega) (by omega), i3 2901 b 0 (by omega) (by omega), A2, i3 0 (M 1000 b 0) 0 (by omega) (by omega), i3 1 (M 1000 b 0) 0 (by omega) (by omega), SN.f3, SN.t2, SN.n2, i4]
    refine ⟨A1, fun q => ⟨SN.tt, SN.tt, ⟨rfl, ht.1, ht.2⟩, ?_⟩, fun q => ?_⟩
    · have e : v3 = L := by omega
      subst e
      refine h _ (fun k c j z1 z2 => ?_) ?_ (fun j => ?_) (fun j => ?_) (fun i i0 i1 => ?_) (fun j hj => ?_)
      · rw [show jset N 2 (a + 2) t (m + v3) k c j = N k c j from if_neg (fun y => z1 ⟨y.1, by omega⟩)]
        exact i3 k c j (fun y => z1 ⟨y.1, by omega⟩) z2
      · rw [jset_k (by decide)]; exact i4
      · rw [jset_a (by omega)]; exact i5 j
      · by_cases hj : j = t
        · rw [hj, jset_s, if_pos rfl]
        · rw [jset_j hj, if_neg hj]; exact i3 _ _ _ (by omega) (by omega)
      · rw [jset_a (by omega), jset_a (by omega)]; exact i6 i i0 i1
      · rw [jset_a (by omega), jset_a (by omega)]; exact i7 j hj
    · rw [i3 2 (M 1000 b 0) v3 (by omega) (by omega), A6 v3 i1 (by omega)]
      have u := hu v3 i1 (by omega)
      refine ⟨A1, ⟨A4, i1, by omega⟩, by unfold jR; omega, SN.tt, rn_X8_addSign _ _ _ N (sg_X8_addSign_0 _ _ _ N ?_)⟩
      rw [SN.f0, SN.f1, SN.t4, SN.n4, SN.t5, SN.n5, i4]
      refine ⟨SN.tt, SN.tt, Or.inl rfl, fun z => absurd z (by omega), fun _ => ⟨SN.tt, SN.tt, ⟨rfl, by omega, by omega⟩, SN.tt, SN.tt, ⟨rfl, by omega, by omega⟩, SN.tt, by unfold jR; omega, SN.tt, fun _ => ⟨by unfold jR; omega, ⟨rfl, rfl, rfl, by omega, by omega, fun k c j z1 z2 => ?_, ?_, fun j => ?_, fun i i0 i1 => ?_, fun j hj => ?_⟩, by omega⟩⟩⟩
      · rw [show jset (jset (jset N 2 (a + 4) (m + v3) (f v3 + 40)) 2 (a + 5) (m + v3) t) 2810 a 0 (m + v3 + 1) k c j = _ from if_neg (fun y => z2 ⟨y.1, y.2.1⟩), show jset (jset N 2 (a + 4) (m + v3) (f v3 + 40)) 2 (a + 5) (m + v3) t k c j = _ from if_neg (fun y => z1 ⟨y.1, by omega⟩), show jset N 2 (a + 4) (m + v3) (f v3 + 40) k c j = _ from if_neg (fun y => z1 ⟨y.1, by omega⟩)]
        exact i3 k c j z1 z2
      · rw [jset_s]; omega
      · rw [jset_k (by decide), jset_a (by omega), jset_a (by omega)]; exact i5 j
      · by_cases hi : i = v3
        · refine ⟨?_, ?_⟩
          · rw [jset_k (by decide), jset_a (show a + 4 ≠ a + 5 by omega), hi, jset_s]
          · rw [jset_k (by decide), hi, jset_s]
        · refine ⟨?_, ?_⟩
          · rw [jset_k (by decide), jset_a (show a + 4 ≠ a + 5 by omega), jset_j (by omega)]; exact (i6 i i0 (by omega)).1
          · rw [jset_k (by decide), jset_j (by omega), jset_a (show a + 5 ≠ a + 4 by omega)]; exact (i6 i i0 (by omega)).2
      · refine ⟨?_, ?_⟩
        · rw [jset_k (by decide), jset_a (show a + 4 ≠ a + 5 by omega), jset_j (by omega)]; exact (i7 j hj).1
        · rw [jset_k (by decide), jset_j (by omega), jset_a (show a + 5 ≠ a + 4 by omega)]; exact (i7 j hj).2
  · rw [S.f2, S.t1, S.n1, hm]
    refine ⟨S.tt, S.tt, ⟨rfl, ht.1, ht.2⟩, rfl, rfl, rfl, by omega, by omega, fun k c j z1 _ => if_neg (fun y => z1 ⟨y.1, by omega⟩), ?_, fun j => ?_, fun i i0 i1 => by omega, fun j hj => ?_⟩
    · rw [jset_k (by decide), hm]; omega
    · by_cases hj : j = t
      · rw [hj, jset_s, if_pos rfl]
      · rw [jset_j hj, if_neg hj]
    · rw [jset_a (by omega), jset_a (by omega)]; exact ⟨rfl, rfl⟩
/-- the suffixes of one text are at hand -/
theorem c_hold {Q : Int → JM → Prop} {n t : Int} {T : ATx} {K : AKp} {P : ATx} {D : ADt} (C : CB X n M T K P D) (H : CH X M T) (A : AI T K P D) (hX : 0 < X) (ht : 0 ≤ t ∧ t < T.1) (h : ∀ M', FrC X M M' → CB X n M' T K P D → CH X M' T → M' 1212 X 0 = M 1212 X 0 → M' 1213 X 0 = M 1213 X 0 → (∀ (k : Nat) (b j : Int), ¬ (X + 144 ≤ b ∧ b ≤ X + 154) → M' k b j = M k b j) → M' 2810 (X + 144) 0 = T.2.1 t → SOk M' (X + 150) (X + 151) (X + 154) (T.2.1 t) (T.2.2 t) → Q 0 M') : Runs G 58 0 0 [(1, X + 144), (1, X + 1), (0, t)] M Q := by
  have W := C.1
  have S := sx_one W
  have a2 := A.1.2.1
  obtain ⟨u1, u2, u3⟩ := A.1.2.2 t ht.1 ht.2
  have go : Runs G 60 0 0 [(1, X + 144), (1, X + (4 + 2 * t)), (0, 0)] (jset M 2810 (X + 144) 0 0) (fun _ M2 => jokM M2 → M2 0 (X + 144) 0 = 18 ∧ Runs G 62 0 0 [(1, X + 144)] M2 (fun _ M3 => jokM M3 → M3 0 (X + 144) 0 = 18 ∧ M3 0 (X + 1) 0 = 14 ∧ M3 0 (X + 144) 0 = 18 ∧ Q 0 (jset (jset M3 2811 (X + 144) 0 t) 2812 (X + 144) 0 (M3 2405 (X + 1) 0)))) := by
    obtain ⟨M0, hM0⟩ : ∃ M0, M0 = jset M 2810 (X + 144) 0 0 := ⟨_, rfl⟩
    rw [← hM0]
    have o0 : ∀ (k : Nat) (b j : Int), ¬ (k = 2810 ∧ b = X + 144) → M0 k b j = M k b j := fun k b j z => by rw [hM0]; exact if_neg (fun y => z ⟨y.1, y.2.1⟩)
    have S0 : Sx M0 (X + 144) 240 := S.keep fun k b j q => o0 k b j (by omega)
    have C0 : CB X n M0 T K P D := C.keep A fun k b j q => o0 k b j (by unfold fpC fpS fpT fpK fpP fpD at q; omega)
    have tf := c_tf C0 A ht
    have e1000 := (c_txt C0 A ht).2.2.1
    refine c_join (m := 0) S0 (by rw [hM0, jset_s]) (by omega) ⟨by omega, by omega⟩ tf u3 (by omega) (by rw [e1000]; omega) (fun M2 o2 s2 _ _ f2 _ _ => ?_)
    have S2 : Sx M2 (X + 144) 240 := S0.keep fun k b j q => o2 k b j (by omega) (by omega)
    refine ⟨S2.tt, c_arr (f := fun i => T.2.2 t i + 40) (n := T.2.1 t) S2 (by rw [s2]; omega) ⟨u1, u2⟩ (fun k k0 k1 => ?_) (fun M3 o3 s3 _ => ?_)⟩
    · have := (f2 k k0 k1).1
      rw [show 0 + k = k by omega] at this
      have u := u3 k k0 k1
      exact ⟨this, by omega, by omega⟩
    · have fr : ∀ (k : Nat) (b j : Int), ¬ (X + 144 ≤ b ∧ b ≤ X + 154) → M3 k b j = M k b j := fun k b j z => by
        rw [o3 k b j (by omega), o2 k b j (by omega) (by omega)]; exact o0 k b j (by omega)
      have S3 := o3.sx S2
      rw [fr 0 (X + 1) 0 (by omega), fr 2405 (X + 1) 0 (by omega)]
      obtain ⟨M4, hM4⟩ : ∃ M4, M4 = jset (jset M3 2811 (X + 144) 0 t) 2812 (X + 144) 0 (M 2405 (X + 1) 0) := ⟨_, rfl⟩
      rw [← hM4]
      have o4 : ∀ (k : Nat) (b j : Int), ¬ (b = X + 144 ∧ (k = 2811 ∨ k = 2812)) → M4 k b j = M3 k b j := fun k b j z => by
        rw [hM4, show jset (jset M3 2811 (X + 144) 0 t) 2812 (X + 144) 0 (M 2405 (X + 1) 0) k b j = _ from if_neg (fun y => z ⟨y.2.1, Or.inr y.1⟩)]
        exact if_neg (fun y => z ⟨y.2.1, Or.inl y.1⟩)
      have fr4 : ∀ (k : Nat) (b j : Int), ¬ (X + 144 ≤ b ∧ b ≤ X + 154) → M4 k b j = M k b j := fun k b j z => by
        rw [o4 k b j (by omega)]; exact fr k b j z
      have st4 : ∀ (k : Nat) (b j : Int), k ≠ 2 → ¬ (b = X + 144 ∧ 2810 ≤ k ∧ k ≤ 2812) → M4 k b j = M k b j := fun k b j z z2 => by
        rw [o4 k b j (by omega), o3 k b j (by omega), o2 k b j (by omega) (by omega)]; exact o0 k b j (by omega)
      have C4 : CB X n M4 T K P D := C.keep A fun k b j q => by
        by_cases z : X + 144 ≤ b ∧ b ≤ X + 154
        · exact st4 k b j (by unfold fpC fpS fpT fpK fpP fpD at q; omega) (by unfold fpC fpS fpT fpK fpP fpD at q; omega)
        · exact fr4 k b j z
      have sok : SOk M4 (X + 150) (X + 151) (X + 154) (T.2.1 t) (T.2.2 t) := by
        have s4 : SOk M3 (X + 144 + 6) (X + 144 + 7) (X + 144 + 10) (T.2.1 t) (T.2.2 t) := s3.lower (fun k k0 k1 => (u3 k k0 k1).1) (fun k _ _ => rfl)
        rw [show X + 144 + 6 = X + 150 by omega, show X + 144 + 7 = X + 151 by omega, show X + 144 + 10 = X + 154 by omega] at s4
        exact s4.keep fun b j _ => o4 _ _ _ (by omega)
      have e10 : M4 2810 (X + 144) 0 = T.2.1 t := by
        rw [o4 _ _ _ (by omega), o3 _ _ _ (by omega), s2]; omega
      have e11 : M4 2811 (X + 144) 0 = t := by rw [hM4, jset_k (by decide), jset_s]
      have e12 : M4 2812 (X + 144) 0 = M 2405 (X + 1) 0 := by rw [hM4, jset_s]
      have e05 : M4 2405 (X + 1) 0 = M 2405 (X + 1) 0 := fr4 _ _ _ (by omega)
      have H4 : CH X M4 T := by
        refine ⟨⟨by rw [e12, e05]; exact Int.le_refl _, fun _ t' t0 t1 et => ?_⟩, ?_⟩
        · rw [e11] at et
          subst et
          exact ⟨e10, sok⟩
        · have B := C.2.2.2.2.2.2
          have e : M4 1212 X 0 = M 1212 X 0 := fr4 _ _ _ (by omega)
          rw [e, e05]
          rcases H.2 with z | z
          · exact Or.inl z
          · rcases B.2.1 with y | y
            · exact Or.inl y
            · refine Or.inr ?_
              rw [fr4 2812 _ 0 (by omega), fr4 2811 _ 0 (by omega)]
              exact ⟨z.1, fun c d => (z.2 c d).keep fun k b j b0 b1 _ => fr4 k b j (by omega)⟩
      exact ⟨S3.tt, w_shelf_t W, S3.tt, h M4 (fun k b j h1 h2 => fr4 k b j (by omega)) C4 H4 (fr4 _ _ _ (by omega)) (fr4 _ _ _ (by omega)) fr4 e10 sok⟩
  refine rn_X8_holdOne _ _ _ M (sg_X8_holdOne_0 _ _ _ M ?_)
  refine ⟨w_shelf_t W, c_lkT C A hX ht (fun _ => ⟨fun q => absurd q (by omega), fun _ => ⟨S.tt, fun _ => ⟨S.tt, S.tt, go⟩, fun z => ⟨S.tt, w_shelf_t W, fun _ => ⟨S.tt, S.tt, go⟩, fun z2 => ?_⟩⟩⟩)⟩
  obtain ⟨q1, q2⟩ := H.1.2 (Classical.not_not.mp z2) t ht.1 ht.2 (Classical.not_not.mp z)
  exact h M (FrC.refl X M) C H rfl rfl (fun _ _ _ _ => rfl) q1 q2
end HOLD
