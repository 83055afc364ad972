/-! steps: sort, unsort -/
/-- the last units of the turned texts: of the first r behind the least -/
noncomputable def bwl (n : Int) (f : Int → Int) : Nat → List TR
  | 0 => [(if n = 0 then -1 else f (n - 1), 0, 0)]
  | r + 1 => bwl n f r ++ [(if odr n f r = 0 then -1 else f (odr n f r - 1), 0, 0)]
theorem bwl_len {n : Int} {f : Int → Int} : ∀ r : Nat, (bwl n f r).length = r + 1
  | 0 => rfl
  | r + 1 => by
    show (bwl n f r ++ [_]).length = _
    rw [List.length_append, bwl_len r]; rfl
theorem bwl_s {n r : Int} {f : Int → Int} (h : 0 ≤ r) : bwl n f (r + 1).toNat = bwl n f r.toNat ++ [(if odr n f r = 0 then -1 else f (odr n f r - 1), 0, 0)] := by
  obtain ⟨k, rfl⟩ := Int.eq_ofNat_of_zero_le h
  rw [show ((k : Int) + 1).toNat = k + 1 by omega, show ((k : Int)).toNat = k by omega]
  rfl
theorem bwl_row {n : Int} {f : Int → Int} : ∀ (m : Nat) (r : Int), 0 ≤ r → r < m → rowx (bwl n f m) (r + 1) 0 = if odr n f r = 0 then -1 else f (odr n f r - 1)
  | 0, r, h0, h1 => by omega
  | m + 1, r, h0, h1 => by
    have hl : ((bwl n f m).length : Int) = m + 1 := by rw [bwl_len]; omega
    show rowx (bwl n f m ++ [_]) (r + 1) 0 = _
    by_cases c : r = m
    · subst c
      rw [← hl, rowx_last]; rfl
    · rw [rowx_app (by omega) (by omega)]
      exact bwl_row m r h0 (by omega)
theorem bwl_0 {n : Int} {f : Int → Int} : ∀ m : Nat, rowx (bwl n f m) 0 0 = if n = 0 then -1 else f (n - 1)
  | 0 => rfl
  | m + 1 => by
    show rowx (bwl n f m ++ [_]) 0 0 = _
    rw [rowx_app (by omega) (by rw [bwl_len]; omega)]
    exact bwl_0 m
theorem bwl_ok {n : Int} {f : Int → Int} (hn : 0 ≤ n) (hf : ∀ k, 0 ≤ k → k < n → 0 ≤ f k) : isBwt n f (bwl n f n.toNat) := by
  refine ⟨by rw [bwl_len]; omega, bwl_0 _, fun i i0 i1 => ?_⟩
  have k := rk_r (f := f) i0 i1
  rw [bwl_row _ _ k.1 (by omega), odr_rk hf i0 i1]
theorem AD.put6 {D : ADt} {l : List TR} (A : AD D) (h : ∃ n f, AU n f ∧ isBwt n f l) : AD (dset D 6 l) := by
  have e5 : (dset D 6 l).1 5 = D.1 5 := by
    show (if (5 : Nat) = 6 then l else D.1 5) = D.1 5
    rw [if_neg (by decide)]
  have e6 : (dset D 6 l).1 6 = l := by
    show (if (6 : Nat) = 6 then l else D.1 6) = l
    rw [if_pos rfl]
  unfold AD
  rw [e5, e6]
  exact ⟨A.1, Or.inr h⟩
/-! the way back -/
/-- the row of the turned text that begins at p -/
noncomputable def rho (n : Int) (f : Int → Int) (p : Int) : Int := if p = n then 0 else rk n f p + 1
theorem rho_r {n p : Int} {f : Int → Int} (p0 : 0 ≤ p) (p1 : p ≤ n) : 0 ≤ rho n f p ∧ rho n f p ≤ n := by
  unfold rho
  by_cases c : p = n
  · rw [if_pos c]; omega
  · rw [if_neg c]
    have := rk_r (f := f) p0 (show p < n by omega)
    omega
theorem rho_prm {n : Int} {f : Int → Int} (hn : 0 ≤ n) (hf : ∀ k, 0 ≤ k → k < n → 0 ≤ f k) : Prm (n + 1) (rho n f) := Prm_of (by omega) (fun r r0 r1 => by have := rho_r (f := f) r0 (show r ≤ n by omega); omega) (fun q r q0 q1 r0 r1 e => by
  unfold rho at e
  by_cases c : q = n
  · rw [if_pos c] at e
    by_cases d : r = n
    · omega
    · rw [if_neg d] at e
      have := rk_r (f := f) r0 (show r < n by omega)
      omega
  · rw [if_neg c] at e
    have k := rk_r (f := f) q0 (show q < n by omega)
    by_cases d : r = n
    · rw [if_pos d] at e; omega
    · rw [if_neg d] at e
      exact rk_inj hf q0 (by omega) r0 (by omega) (by omega))
theorem sls_e {n j : Int} {f : Int → Int} : sls n f n j ↔ j < n := by
  unfold sls
  rw [lcp2_z (by omega)]
  omega
theorem sls_f {n j : Int} {f : Int → Int} (h : j < n) : ¬ sls n f j n := by
  unfold sls
  rw [lcp2_z (by omega)]
  omega
theorem rho_iff {n i j : Int} {f : Int → Int} (hf : ∀ k, 0 ≤ k → k < n → 0 ≤ f k) (i0 : 0 ≤ i) (i1 : i ≤ n) (j0 : 0 ≤ j) (j1 : j ≤ n) : rho n f i < rho n f j ↔ sls n f i j := by
  unfold rho
  by_cases c : i = n
  · subst c
    rw [if_pos rfl, sls_e]
    by_cases d : j = i
    · rw [if_pos d]; omega
    · rw [if_neg d]
      have := rk_r (f := f) j0 (show j < i by omega)
      omega
  · rw [if_neg c]
    have k := rk_r (f := f) i0 (show i < n by omega)
    by_cases d : j = n
    · subst d
      rw [if_pos rfl]
      exact ⟨fun z => by omega, fun z => absurd z (sls_f (by omega))⟩
    · rw [if_neg d]
      have := rk_iff hf i0 (show i < n by omega) j0 (show j < n by omega)
      constructor
      · intro z; exact this.mp (by omega)
      · intro z; have := this.mpr z; omega
theorem sls_cons {n q i : Int} {f : Int → Int} (q1 : q < n) (i1 : i < n) : sls n f q i ↔ f q < f i ∨ (f q = f i ∧ sls n f (q + 1) (i + 1)) := by
  by_cases c : f q = f i
  · unfold sls
    rw [lcp2_s q1 i1 c, show q + (1 + lcp2 n f n f (q + 1) (i + 1)) = q + 1 + lcp2 n f n f (q + 1) (i + 1) by omega, show i + (1 + lcp2 n f n f (q + 1) (i + 1)) = i + 1 + lcp2 n f n f (q + 1) (i + 1) by omega]
    exact ⟨fun z => Or.inr ⟨c, z⟩, fun z => z.elim (fun y => by omega) (fun y => y.2)⟩
  · have e : lcp2 n f n f q i = 0 := lcp2_z (fun z => c z.2.2)
    unfold sls
    rw [e, Int.add_zero, Int.add_zero]
    constructor
    · intro z; left; omega
    · intro z
      rcases z with z | z
      · right; omega
      · exact absurd z.1 c
/-- how many rows stand ahead, by last units -/
noncomputable def plc (l : List TR) (k : Int) : Int := cntI (fun j => rowx l j 0 < rowx l k 0 ∨ (rowx l j 0 = rowx l k 0 ∧ j < k)) l.length
theorem bw_last {n p : Int} {f : Int → Int} {l : List TR} (h : isBwt n f l) (p0 : 0 ≤ p) (p1 : p ≤ n) : rowx l (rho n f p) 0 = if p = 0 then -1 else f (p - 1) := by
  unfold rho
  by_cases c : p = n
  · subst c
    rw [if_pos rfl]; exact h.2.1
  · rw [if_neg c]; exact h.2.2 p p0 (by omega)
theorem bw_turn {n : Int} {f : Int → Int} {l : List TR} (h : isBwt n f l) (hn : 0 ≤ n) (hf : ∀ k, 0 ≤ k → k < n → 0 ≤ f k) : plc l (rho n f 0) = 0 ∧ ∀ i, 0 ≤ i → i < n → plc l (rho n f (i + 1)) = rho n f i := by
  have pp := rho_prm hn hf
  have re : ∀ k, plc l k = cntI (fun p => rowx l (rho n f p) 0 < rowx l k 0 ∨ (rowx l (rho n f p) 0 = rowx l k 0 ∧ rho n f p < k)) (n + 1) := fun k => by
    unfold plc
    rw [h.1]
    exact (Prm_cntp (q := fun j => rowx l j 0 < rowx l k 0 ∨ (rowx l j 0 = rowx l k 0 ∧ j < k)) (by omega) pp).symm
  constructor
  · rw [re]
    have z : cntI (fun p => rowx l (rho n f p) 0 < rowx l (rho n f 0) 0 ∨ (rowx l (rho n f p) 0 = rowx l (rho n f 0) 0 ∧ rho n f p < rho n f 0)) (n + 1) ≤ 0 := (cntI_none (by omega)).mpr fun p p0 p1 => by
      rw [bw_last h p0 (by omega), bw_last h (Int.le_refl 0) hn, if_pos rfl]
      by_cases c : p = 0
      · subst c
        rw [if_pos rfl]; omega
      · rw [if_neg c]
        have := hf (p - 1) (by omega) (by omega)
        omega
    have := (cntI_r (p := fun p => rowx l (rho n f p) 0 < rowx l (rho n f 0) 0 ∨ (rowx l (rho n f p) 0 = rowx l (rho n f 0) 0 ∧ rho n f p < rho n f 0)) (n := n + 1) (by omega)).1
    omega
  · intro i i0 i1
    rw [re]
    have key : ∀ m : Nat, (m : Int) ≤ n → cntI (fun p => rowx l (rho n f p) 0 < rowx l (rho n f (i + 1)) 0 ∨ (rowx l (rho n f p) 0 = rowx l (rho n f (i + 1)) 0 ∧ rho n f p < rho n f (i + 1))) ((m : Int) + 1) = 1 + cntI (fun q => sls n f q i) m := by
      have e1 : rowx l (rho n f (i + 1)) 0 = f i := by
        rw [bw_last h (by omega) (by omega), if_neg (by omega), show i + 1 - 1 = i by omega]
      intro m
      induction m with
      | zero =>
        intro _
        have f0 := hf i i0 i1
        rw [show ((0 : Nat) : Int) + 1 = 0 + 1 from rfl, cntI_t (Int.le_refl 0) (Or.inl (by rw [bw_last h (Int.le_refl 0) hn, if_pos rfl, e1]; omega)), cntI_z (by omega), cntI_z (by omega)]
        rfl
      | succ m ih =>
        intro hm
        have ih := ih (by omega)
        have e2 : rowx l (rho n f ((m : Int) + 1)) 0 = f m := by
          rw [bw_last h (by omega) (by omega), if_neg (by omega), show (m : Int) + 1 - 1 = m by omega]
        have cs := sls_cons (n := n) (q := m) (i := i) (f := f) (by omega) i1
        have ri := rho_iff hf (show 0 ≤ (m : Int) + 1 by omega) (show (m : Int) + 1 ≤ n by omega) (show 0 ≤ i + 1 by omega) (show i + 1 ≤ n by omega)
        rw [show ((m + 1 : Nat) : Int) = (m : Int) + 1 by omega]
        rcases Classical.em (sls n f m i) with c | c
        · rw [cntI_t (p := fun q => sls n f q i) (by omega) c, cntI_t (by omega) (by
            rw [e1, e2]
            exact (cs.mp c).imp id fun z => ⟨z.1, ri.mpr z.2⟩), ih]; omega
        · rw [cntI_f (p := fun q => sls n f q i) (by omega) c, cntI_f (by omega) (fun z => by
            rw [e1, e2] at z
            exact c (cs.mpr (z.imp id fun y => ⟨y.1, ri.mp y.2⟩))), ih]
    have k := key n.toNat (by omega)
    rw [show (n.toNat : Int) = n by omega] at k
    rw [k]
    unfold rho rk
    rw [if_neg (by omega)]; omega
theorem plc_r {n k : Int} {f : Int → Int} {l : List TR} (h : isBwt n f l) (hn : 0 ≤ n) (hf : ∀ k, 0 ≤ k → k < n → 0 ≤ f k) (k0 : 0 ≤ k) (k1 : k ≤ n) : 0 ≤ plc l k ∧ plc l k ≤ n := by
  obtain ⟨p, p0, p1, p2⟩ := (rho_prm hn hf).2.2 k k0 (by omega)
  obtain ⟨b1, b2⟩ := bw_turn h hn hf
  by_cases c : p = 0
  · rw [← p2, c, b1]; omega
  · have := b2 (p - 1) (by omega) (by omega)
    rw [show p - 1 + 1 = p by omega, p2] at this
    rw [this]; exact rho_r (by omega) (by omega)
theorem plc_inj {n j k : Int} {f : Int → Int} {l : List TR} (h : isBwt n f l) (hn : 0 ≤ n) (hf : ∀ k, 0 ≤ k → k < n → 0 ≤ f k) (j0 : 0 ≤ j) (j1 : j ≤ n) (k0 : 0 ≤ k) (k1 : k ≤ n) (e : plc l j = plc l k) : j = k := by
  have pp := rho_prm hn hf
  obtain ⟨p, p0, p1, p2⟩ := pp.2.2 j j0 (by omega)
  obtain ⟨q, q0, q1, q2⟩ := pp.2.2 k k0 (by omega)
  obtain ⟨b1, b2⟩ := bw_turn h hn hf
  have t : ∀ x, 0 ≤ x → x < n + 1 → plc l (rho n f x) = if x = 0 then rho n f n else rho n f (x - 1) := fun x x0 x1 => by
    by_cases c : x = 0
    · rw [if_pos c, c, b1]; unfold rho; rw [if_pos rfl]
    · rw [if_neg c]
      have := b2 (x - 1) (by omega) (by omega)
      rw [show x - 1 + 1 = x by omega] at this
      exact this
  rw [← p2, ← q2, t p p0 p1, t q q0 q1] at e
  have : p = q := by
    by_cases c : p = 0
    · rw [if_pos c] at e
      by_cases d : q = 0
      · omega
      · rw [if_neg d] at e
        have := pp.2.1 n (q - 1) hn (by omega) (by omega) (by omega) e
        omega
    · rw [if_neg c] at e
      by_cases d : q = 0
      · rw [if_pos d] at e
        have := pp.2.1 (p - 1) n (by omega) (by omega) hn (by omega) e
        omega
      · rw [if_neg d] at e
        have := pp.2.1 (p - 1) (q - 1) (by omega) (by omega) (by omega) (by omega) e
        omega
  rw [← p2, ← q2, this]
/-- a row of places, by what stands ahead, walks the text -/
theorem bw_walk {n : Int} {f u : Int → Int} {l : List TR} (h : isBwt n f l) (hn : 0 ≤ n) (hf : ∀ k, 0 ≤ k → k < n → 0 ≤ f k) (hu : ∀ k, 0 ≤ k → k ≤ n → u (plc l k) = k) : u 0 = rho n f 0 ∧ ∀ i, 0 ≤ i → i < n → u (rho n f i) = rho n f (i + 1) := by
  obtain ⟨b1, b2⟩ := bw_turn h hn hf
  refine ⟨?_, fun i i0 i1 => ?_⟩
  · have r := rho_r (n := n) (f := f) (Int.le_refl 0) hn
    have := hu _ r.1 r.2
    rw [b1] at this
    exact this
  · have r := rho_r (n := n) (f := f) (show 0 ≤ i + 1 by omega) (show i + 1 ≤ n by omega)
    have := hu _ r.1 r.2
    rw [b2 i i0 i1] at this
    exact this
