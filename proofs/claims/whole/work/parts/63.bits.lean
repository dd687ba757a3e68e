/-! how many bits a long has -/
def ev : List Nat → Nat
  | [] => 0
  | b :: L => b + 256 * ev L
theorem ev_s (b : Nat) (L : List Nat) : ev (b :: L) = b + 256 * ev L := rfl
theorem tb8 {b X : Nat} (hb : b < 256) (j : Nat) : (b + 256 * X).testBit j = if j < 8 then b.testBit j else X.testBit (j - 8) := by
  have := Nat.testBit_two_pow_mul_add X (i := 8) (b := b) hb j
  rw [show (2 : Nat) ^ 8 = 256 from rfl] at this
  rw [Nat.add_comm]
  exact this
theorem and8 {a b X Y : Nat} (ha : a < 256) (hb : b < 256) : (a + 256 * X) &&& (b + 256 * Y) = (a &&& b) + 256 * (X &&& Y) := by
  have hab : a &&& b < 256 := Nat.lt_of_le_of_lt Nat.and_le_left ha
  apply Nat.eq_of_testBit_eq
  intro j
  rw [Nat.testBit_and, tb8 ha, tb8 hb, tb8 hab]
  by_cases h : j < 8
  · rw [if_pos h, if_pos h, if_pos h, Nat.testBit_and]
  · rw [if_neg h, if_neg h, if_neg h, Nat.testBit_and]
def sA (b : Nat) : Nat := b - ((b / 2) &&& 85)
def sB (b : Nat) : Nat := (b &&& 51) + ((b / 4) &&& 51)
def sC (b : Nat) : Nat := (b + b / 16) &&& 15
theorem kA : ∀ b : Fin 256, ∀ e : Fin 2, (b.val / 2 + 128 * e.val) &&& 85 = (b.val / 2) &&& 85 := by decide +kernel
theorem kB : ∀ b : Fin 256, ∀ e : Fin 4, (b.val / 4 + 64 * e.val) &&& 51 = (b.val / 4) &&& 51 := by decide +kernel
theorem kC : ∀ b : Fin 69, ∀ e : Fin 5, (b.val + b.val / 16 + 16 * e.val) &&& 15 = (b.val + b.val / 16) &&& 15 := by decide +kernel
theorem kD : ∀ b : Fin 256, sA b.val < 256 ∧ sB (sA b.val) < 69 ∧ sB (sA b.val) % 16 < 5 ∧ sC (sB (sA b.val)) = cntN (fun j => b.val.testBit j) 8 := by decide +kernel
theorem evA : ∀ (L : List Nat), (∀ b, b ∈ L → b < 256) → ev L - ((ev L / 2) &&& ev (L.map (fun _ => 85))) = ev (L.map sA)
  | [], _ => rfl
  | b :: L, h => by
    have hb : b < 256 := h b List.mem_cons_self
    have ih := evA L (fun x hx => h x (List.mem_cons_of_mem _ hx))
    simp only [List.map_cons, ev]
    rw [show (b + 256 * ev L) / 2 = (b / 2 + 128 * (ev L % 2)) + 256 * (ev L / 2) by omega, and8 (by omega) (by omega)]
    have k := kA ⟨b, hb⟩ ⟨ev L % 2, by omega⟩
    simp only at k
    rw [k, ← ih]
    unfold sA
    have h1 : (b / 2) &&& 85 ≤ b / 2 := Nat.and_le_left
    have h2 : (ev L / 2) &&& ev (L.map (fun _ => 85)) ≤ ev L / 2 := Nat.and_le_left
    omega
theorem evB : ∀ (L : List Nat), (∀ b, b ∈ L → b < 256) → (ev L &&& ev (L.map (fun _ => 51))) + ((ev L / 4) &&& ev (L.map (fun _ => 51))) = ev (L.map sB)
  | [], _ => rfl
  | b :: L, h => by
    have hb : b < 256 := h b List.mem_cons_self
    have ih := evB L (fun x hx => h x (List.mem_cons_of_mem _ hx))
    simp only [List.map_cons, ev]
    rw [show (b + 256 * ev L) / 4 = (b / 4 + 64 * (ev L % 4)) + 256 * (ev L / 4) by omega, and8 (by omega) (by omega), and8 (by omega) (by omega)]
    have k := kB ⟨b, hb⟩ ⟨ev L % 4, by omega⟩
    simp only at k
    rw [k, ← ih]
    unfold sB
    omega
theorem ev16 : ∀ (L : List Nat), (∀ b, b ∈ L → b % 16 < 5) → ev L % 16 < 5
  | [], _ => by decide
  | b :: L, h => by
    have hb := h b List.mem_cons_self
    unfold ev
    omega
theorem evC : ∀ (L : List Nat), (∀ b, b ∈ L → b < 69 ∧ b % 16 < 5) → (ev L + ev L / 16) &&& ev (L.map (fun _ => 15)) = ev (L.map sC)
  | [], _ => rfl
  | b :: L, h => by
    have hb := h b List.mem_cons_self
    have ih := evC L (fun x hx => h x (List.mem_cons_of_mem _ hx))
    have h16 := ev16 L (fun x hx => (h x (List.mem_cons_of_mem _ hx)).2)
    simp only [List.map_cons, ev]
    rw [show b + 256 * ev L + (b + 256 * ev L) / 16 = (b + b / 16 + 16 * (ev L % 16)) + 256 * (ev L + ev L / 16) by omega, and8 (by omega) (by omega)]
    have k := kC ⟨b, hb.1⟩ ⟨ev L % 16, h16⟩
    simp only at k
    rw [k, ← ih]
    rfl
theorem cntN_add (f : Nat → Bool) (m : Nat) : ∀ n, cntN f (m + n) = cntN f m + cntN (fun j => f (m + j)) n
  | 0 => rfl
  | n + 1 => by rw [← Nat.add_assoc, cntN_s, cntN_s, cntN_add f m n]; omega
theorem cntN_congr {f g : Nat → Bool} : ∀ {n : Nat}, (∀ i, i < n → f i = g i) → cntN f n = cntN g n
  | 0, _ => rfl
  | n + 1, h => by rw [cntN_s, cntN_s, h n (by omega), cntN_congr (fun i hi => h i (by omega))]
theorem ev_cnt : ∀ (L : List Nat), (∀ b, b ∈ L → b < 256) → cntN (fun j => (ev L).testBit j) (8 * L.length) = (L.map (fun b => cntN (fun j => b.testBit j) 8)).sum
  | [], _ => rfl
  | b :: L, h => by
    have hb : b < 256 := h b List.mem_cons_self
    have ih := ev_cnt L (fun x hx => h x (List.mem_cons_of_mem _ hx))
    rw [List.length_cons, show 8 * (L.length + 1) = 8 + 8 * L.length by omega, cntN_add]
    simp only [List.map_cons, List.sum_cons]
    rw [← ih]
    congr 1
    · exact cntN_congr (fun i hi => by rw [ev_s, tb8 hb, if_pos hi])
    · exact cntN_congr (fun i hi => by rw [ev_s, tb8 hb, if_neg (by omega), show 8 + i - 8 = i by omega])
def vN (x : Int64) : Nat := x.toBitVec.toNat
theorem vN_lt (x : Int64) : vN x < 2 ^ 64 := x.toBitVec.isLt
theorem vN_and (x y : Int64) : vN (x &&& y) = vN x &&& vN y := by unfold vN; rw [Int64.toBitVec_and, BitVec.toNat_and]
theorem vN_add {x y : Int64} (h : vN x + vN y < 2 ^ 64) : vN (x + y) = vN x + vN y := by
  unfold vN at *
  rw [Int64.toBitVec_add, BitVec.toNat_add]
  exact Nat.mod_eq_of_lt h
theorem vN_sub {x y : Int64} (h : vN y ≤ vN x) : vN (x - y) = vN x - vN y := by
  unfold vN at *
  rw [Int64.toBitVec_sub, BitVec.toNat_sub]
  have := x.toBitVec.isLt
  omega
theorem vN_shr (x : Int64) {k : Nat} (hk : k < 64) : vN ((Int64.toUInt64 x >>> ((Int32.toInt64 (nI k)).toUInt64 &&& Int64.toUInt64 63)).toInt64) = vN x / 2 ^ k := by
  rw [sh_u k hk]
  unfold vN
  show (x.toUInt64 >>> UInt64.ofNat k).toNat = _
  rw [UInt64.toNat_shiftRight, sh_t k hk, Nat.mod_eq_of_lt hk, Nat.shiftRight_eq_div_pow]
  rfl
theorem vN_shrL (x : Int64) {l : Int32} {k : Nat} (hl : l = nI k) (hk : k < 64) : vN ((Int64.toUInt64 x >>> ((Int32.toInt64 l).toUInt64 &&& Int64.toUInt64 63)).toInt64) = vN x / 2 ^ k := by subst hl; exact vN_shr x hk
def byt (v : Nat) : List Nat := [v % 256, v / 256 % 256, v / 65536 % 256, v / 16777216 % 256, v / 4294967296 % 256, v / 1099511627776 % 256, v / 281474976710656 % 256, v / 72057594037927936 % 256]
theorem byt_ev {v : Nat} (h : v < 2 ^ 64) : ev (byt v) = v := by
  unfold byt ev ev ev ev ev ev ev ev ev
  omega
theorem byt_lt {v : Nat} : ∀ b, b ∈ byt v → b < 256 := by
  intro b hb
  unfold byt at hb
  simp only [List.mem_cons, List.mem_nil_iff, or_false] at hb
  rcases hb with rfl | rfl | rfl | rfl | rfl | rfl | rfl | rfl <;> exact Nat.mod_lt _ (by decide)
theorem fold8 {p0 p1 p2 p3 p4 p5 p6 p7 x : Nat} (h0 : p0 ≤ 8) (h1 : p1 ≤ 8) (h2 : p2 ≤ 8) (h3 : p3 ≤ 8) (h4 : p4 ≤ 8) (h5 : p5 ≤ 8) (h6 : p6 ≤ 8) (h7 : p7 ≤ 8) (hx : x = ev [p0, p1, p2, p3, p4, p5, p6, p7]) :
    x < 2 ^ 61 ∧ ∀ y, y = x + x / 2 ^ 8 → y < 2 ^ 62 ∧ ∀ z, z = y + y / 2 ^ 16 → z < 2 ^ 63 ∧ ((z + z / 2 ^ 32) % 2 ^ 32) % 2 ^ 7 = p0 + (p1 + (p2 + (p3 + (p4 + (p5 + (p6 + (p7 + 0))))))) := by
  simp only [ev_s, ev, Nat.mul_zero, Nat.add_zero] at hx
  obtain ⟨q6, e6⟩ : ∃ q, q = p6 + 256 * p7 := ⟨_, rfl⟩
  obtain ⟨q5, e5⟩ : ∃ q, q = p5 + 256 * q6 := ⟨_, rfl⟩
  obtain ⟨q4, e4⟩ : ∃ q, q = p4 + 256 * q5 := ⟨_, rfl⟩
  obtain ⟨q3, e3⟩ : ∃ q, q = p3 + 256 * q4 := ⟨_, rfl⟩
  obtain ⟨q2, e2⟩ : ∃ q, q = p2 + 256 * q3 := ⟨_, rfl⟩
  obtain ⟨q1, e1⟩ : ∃ q, q = p1 + 256 * q2 := ⟨_, rfl⟩
  rw [← e6, ← e5, ← e4, ← e3, ← e2, ← e1] at hx
  have b6 : q6 ≤ 2056 := by clear e5 e4 e3 e2 e1 hx; omega
  have b5 : q5 ≤ 526344 := by clear e6 e4 e3 e2 e1 hx; omega
  have b4 : q4 ≤ 134744072 := by clear e6 e5 e3 e2 e1 hx; omega
  have b3 : q3 ≤ 34494482440 := by clear e6 e5 e4 e2 e1 hx; omega
  have b2 : q2 ≤ 8830587504648 := by clear e6 e5 e4 e3 e1 hx; omega
  have b1 : q1 ≤ 2260630401189896 := by clear e6 e5 e4 e3 e2 hx; omega
  have bx : x ≤ 578721382704613384 := by clear e6 e5 e4 e3 e2 e1; omega
  refine ⟨by clear e6 e5 e4 e3 e2 e1 hx; omega, fun y hy => ?_⟩
  have d1 : x / 2 ^ 8 = q1 := by clear e6 e5 e4 e3 e2 e1 hy; omega
  rw [d1] at hy
  refine ⟨by clear e6 e5 e4 e3 e2 e1 hx d1; omega, fun z hz => ?_⟩
  have hy2 : y = (p0 + p1 + 256 * (p1 + p2)) + 65536 * (q2 + q3) := by clear e6 e5 e4 e3 hz d1 b1 b2 b3 b4 b5 b6 bx; omega
  have d2 : y / 2 ^ 16 = q2 + q3 := by
    clear e6 e5 e4 e3 e2 e1 hx hy hz d1 bx
    have hl : p0 + p1 + 256 * (p1 + p2) < 65536 := by omega
    generalize p0 + p1 + 256 * (p1 + p2) = l at *
    generalize q2 + q3 = h at *
    omega
  rw [d2] at hz
  refine ⟨by clear e6 e5 e4 e3 e2 e1 hx d1 d2 hy2; omega, ?_⟩
  have hz2 : z = (p0 + p1 + p2 + p3 + 256 * (p1 + p2 + p3 + p4)) + 65536 * (q2 + q3 + q4 + q5) := by
    clear e6 hx hy d1 d2 b1 b2 b3 b4 b5 b6 bx e1
    omega
  have hz3 : q2 + q3 + q4 + q5 = (p2 + p3 + p4 + p5 + 256 * (p3 + p4 + p5 + p6)) + 65536 * (q4 + q5 + q6 + p7) := by
    clear hx hy d1 d2 hz hz2 b1 b2 b3 b4 b5 b6 bx e1 hy2
    omega
  have d3 : z / 2 ^ 32 = q4 + q5 + q6 + p7 := by
    rw [hz3] at hz2
    clear e6 e5 e4 e3 e2 e1 hx hy hz d1 d2 hz3 hy2 bx
    have hl1 : p0 + p1 + p2 + p3 + 256 * (p1 + p2 + p3 + p4) < 65536 := by omega
    have hl2 : p2 + p3 + p4 + p5 + 256 * (p3 + p4 + p5 + p6) < 65536 := by omega
    generalize p0 + p1 + p2 + p3 + 256 * (p1 + p2 + p3 + p4) = l1 at *
    generalize p2 + p3 + p4 + p5 + 256 * (p3 + p4 + p5 + p6) = l2 at *
    generalize q4 + q5 + q6 + p7 = h at *
    omega
  rw [d3]
  have h4 : q4 + q5 + q6 + p7 = p4 + p5 + p6 + p7 + 256 * (q5 + q6 + p7) := by
    clear hx hy d1 d2 hz hz2 hz3 d3 hy2 b1 b2 b3 b4 b5 b6 bx e1 e2 e3
    omega
  have h5 : z + (q4 + q5 + q6 + p7) = (p0 + p1 + p2 + p3 + (p4 + p5 + p6 + p7)) + 128 * (2 * (p1 + p2 + p3 + p4) + 512 * (q2 + q3 + q4 + q5) + 2 * (q5 + q6 + p7)) := by
    rw [h4, hz2]
    clear hx hy d1 d2 hz hz2 hz3 d3 hy2 b1 b2 b3 b4 b5 b6 bx e1 e2 e3 e4 e5 e6 h4
    omega
  rw [h5]
  clear hx hy d1 d2 hz hz2 hz3 d3 hy2 b1 b2 b3 b4 b5 b6 bx e1 e2 e3 e4 e5 e6 h4 h5
  generalize 2 * (p1 + p2 + p3 + p4) + 512 * (q2 + q3 + q4 + q5) + 2 * (q5 + q6 + p7) = G
  omega
def popc (x : Int64) : Nat := cntN (fun j => bt x j) 64
theorem s_bitCount {x : Int64} {Q : Int32 → Prop} (h : Q (nI (popc x))) : P_jd_bitCount x Q := by
  have hv := vN_lt x
  have e0 := byt_ev hv
  have hl := byt_lt (v := vN x)
  have hA := evA (byt (vN x)) hl
  have hlA : ∀ b, b ∈ (byt (vN x)).map sA → b < 256 := by
    intro b hb
    obtain ⟨c, hc, rfl⟩ := List.mem_map.mp hb
    exact (kD ⟨c, hl c hc⟩).1
  have hB := evB _ hlA
  have hlB : ∀ b, b ∈ ((byt (vN x)).map sA).map sB → b < 69 ∧ b % 16 < 5 := by
    intro b hb
    obtain ⟨c, hc, rfl⟩ := List.mem_map.mp hb
    obtain ⟨d, hd, rfl⟩ := List.mem_map.mp hc
    exact ⟨(kD ⟨d, hl d hd⟩).2.1, (kD ⟨d, hl d hd⟩).2.2.1⟩
  have hC := evC _ hlB
  have mA : ev ((byt (vN x)).map (fun _ => 85)) = 6148914691236517205 := by unfold byt; simp only [List.map_cons, List.map_nil]; decide +kernel
  have mB : ev (((byt (vN x)).map sA).map (fun _ => 51)) = 3689348814741910323 := by unfold byt; simp only [List.map_cons, List.map_nil]; decide +kernel
  have mC : ev ((((byt (vN x)).map sA).map sB).map (fun _ => 15)) = 1085102592571150095 := by unfold byt; simp only [List.map_cons, List.map_nil]; decide +kernel
  rw [mA, e0] at hA
  rw [mB] at hB
  rw [mC] at hC
  have lB : ∀ L : List Nat, (∀ b, b ∈ L → b < 69 ∧ b % 16 < 5) → L.length = 8 → ev L < 2 ^ 63 := by
    intro L hL hn
    have : ∀ L : List Nat, (∀ b, b ∈ L → b < 69 ∧ b % 16 < 5) → 2 * ev L < 256 ^ L.length := by
      intro L
      induction L with
      | nil => intro _; decide
      | cons b L ih =>
        intro hL
        have h1 := ih (fun c hc => hL c (List.mem_cons_of_mem _ hc))
        have h2 := (hL b List.mem_cons_self).1
        rw [List.length_cons, Nat.pow_succ]
        unfold ev
        omega
    have := this L hL
    rw [hn] at this
    omega
  unfold P_jd_bitCount
  intro x1 hx1
  have v1 : vN x1 = ev ((byt (vN x)).map sA) := by
    rw [hx1, vN_sub, vN_and, vN_shrL x (l := 1) (k := 1) rfl (by decide)]
    · exact hA
    · rw [vN_and, vN_shrL x (l := 1) (k := 1) rfl (by decide)]
      exact Nat.le_trans Nat.and_le_left (Nat.div_le_self _ _)
  intro x2 hx2
  have v2 : vN x2 = ev (((byt (vN x)).map sA).map sB) := by
    have e : vN (x1 &&& 3689348814741910323) + vN (((Int64.toUInt64 x1 >>> ((Int32.toInt64 (2 : Int32)).toUInt64 &&& Int64.toUInt64 63)).toInt64) &&& 3689348814741910323) = ev (((byt (vN x)).map sA).map sB) := by
      rw [vN_and, vN_and, vN_shrL x1 (l := 2) (k := 2) rfl (by decide), v1]
      exact hB
    rw [hx2, vN_add, e]
    rw [e]
    have := lB _ hlB rfl
    omega
  intro x3 hx3
  have hlt2 : vN x2 < 2 ^ 63 := by rw [v2]; exact lB _ hlB rfl
  have v3 : vN x3 = ev ((((byt (vN x)).map sA).map sB).map sC) := by
    rw [hx3, vN_and, vN_add, vN_shrL x2 (l := 4) (k := 4) rfl (by decide), v2]
    · exact hC
    · rw [vN_shrL x2 (l := 4) (k := 4) rfl (by decide)]
      omega
  have hD : ∀ b, b < 256 → sC (sB (sA b)) = cntN (fun j => b.testBit j) 8 := fun b hb => (kD ⟨b, hb⟩).2.2.2
  have hD8 : ∀ b, b < 256 → sC (sB (sA b)) ≤ 8 := fun b hb => by rw [hD b hb]; exact cntN_le _ _
  have hpop : popc x = ((byt (vN x)).map (fun b => cntN (fun j => b.testBit j) 8)).sum := by
    have := ev_cnt (byt (vN x)) hl
    rw [e0] at this
    rw [← this]
    rfl
  have hpop2 : popc x = ((byt (vN x)).map (fun b => sC (sB (sA b)))).sum := by
    rw [hpop]
    congr 1
    apply List.map_congr_left
    intro b hb
    exact (hD b (hl b hb)).symm
  have M : ∀ w, w % 256 < 256 := fun w => Nat.mod_lt _ (by decide)
  obtain ⟨f1, f2⟩ := fold8 (hD8 _ (M _)) (hD8 _ (M _)) (hD8 _ (M _)) (hD8 _ (M _)) (hD8 _ (M _)) (hD8 _ (M _)) (hD8 _ (M _)) (hD8 _ (M _)) (v3 : vN x3 = ev [_, _, _, _, _, _, _, _])
  intro x4 hx4
  have v4 : vN x4 = vN x3 + vN x3 / 2 ^ 8 := by
    rw [hx4, vN_add, vN_shrL x3 (l := 8) (k := 8) rfl (by decide)]
    rw [vN_shrL x3 (l := 8) (k := 8) rfl (by decide)]
    omega
  obtain ⟨g1, g2⟩ := f2 _ v4
  intro x5 hx5
  have v5 : vN x5 = vN x4 + vN x4 / 2 ^ 16 := by
    rw [hx5, vN_add, vN_shrL x4 (l := 16) (k := 16) rfl (by decide)]
    rw [vN_shrL x4 (l := 16) (k := 16) rfl (by decide)]
    omega
  obtain ⟨k1, k2⟩ := g2 _ v5
  intro x6 hx6
  have v6 : vN x6 = vN x5 + vN x5 / 2 ^ 32 := by
    rw [hx6, vN_add, vN_shrL x5 (l := 32) (k := 32) rfl (by decide)]
    rw [vN_shrL x5 (l := 32) (k := 32) rfl (by decide)]
    omega
  rw [pk_and _ 7 (by decide)]
  have e6 : (Int64.toInt32 x6).toBitVec.toNat = vN x6 % 2 ^ 32 := by
    rw [Int64.toBitVec_toInt32, BitVec.signExtend_eq_setWidth_of_le _ (by decide), BitVec.toNat_setWidth]
    rfl
  rw [e6, v6, k2]
  rw [hpop2] at h
  exact h
