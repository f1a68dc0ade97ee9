/-! ===== tag, lines, ratio ===== -/
section Q3
variable {st wy : Nat} {wg : Bool} {B : Nat} {a : zA} {used last shape dirty memory words v0 x od : Nat → Int32} {rf th tr wh s1 s2 s3 s4 cw : Int32}
theorem pX5_tag_loop (hsw : zSW st wy) (hI : zIA B a) (hR : zRS (mkK st wy wg false) a used last shape dirty memory words) {hc ps a2 : Int32} {s : Nat} (hs : s < st) : ∀ (n N i : Nat), i + n = 32 → n < N →
    (∀ l0, i ≤ l0 → l0 < 32 → l0 % st = s → 0 < aU a l0 → nI (aSn (mkK st wy wg false) a l0) = a2 → (∀ l, l < 32 → l % st = s → 0 < aU a l → nI (aSn (mkK st wy wg false) a l) = a2 → l = l0) → fX5_tag_16 hc (nI st) ps last used N (nI s) a2 (nI i) rf = some (nI l0, 0)) ∧
    ((∀ l, i ≤ l → l < 32 → l % st = s → 0 < aU a l → ¬ nI (aSn (mkK st wy wg false) a l) = a2) → fX5_tag_16 hc (nI st) ps last used N (nI s) a2 (nI i) rf = some (-1, 1)) := by
  have hB := hI.2.2.2
  have h4 := hsw.2.1
  intro n
  induction n with
  | zero =>
    intro N i h hN
    obtain ⟨N, rfl⟩ : ∃ k, N = k + 1 := ⟨N - 1, by omega⟩
    refine ⟨fun l0 h1 h2 => by omega, fun _ => ?_⟩
    rw [fX5_tag_16, if_pos (n32 (by omega) (by omega))]
    rfl
  | succ n ih =>
    intro N i h hN
    obtain ⟨N, rfl⟩ : ∃ k, N = k + 1 := ⟨N - 1, by omega⟩
    have hi : i < 32 := by omega
    have hb := (hI.1 i hi).2.2.2.1
    have hm := Nat.mod_lt i hsw.1
    obtain ⟨ih1, ih2⟩ := ih N (i + 1) (by omega) (by omega)
    have e : fX5_tag_16 hc (nI st) ps last used (N + 1) (nI s) a2 (nI i) rf = if i % st = s ∧ 0 < aU a i ∧ nI (aSn (mkK st wy wg false) a i) = a2 then some (nI i, 0) else fX5_tag_16 hc (nI st) ps last used N (nI s) a2 (nI (i + 1)) rf := by
      rw [fX5_tag_16, if_neg (n32' hi), pX3_setOf hsw.1 hsw.2.1 hi, Option.bind_some]
      simp only [zlet_e]
      rw [show nI i + 1 = nI (i + 1) from nI_1 _]
      by_cases c : i % st = s
      · rw [if_pos (by rw [c]), zald_n hi (by omega), (hR.1 i hi).1]
        by_cases c2 : aU a i = 0
        · rw [if_pos ((nI_le0 (by omega)).mpr c2), if_neg (by omega)]
        · have hu : 0 < aU a i := by omega
          rw [if_neg (fun z => c2 ((nI_le0 (by omega)).mp z)), pX3_usedSince hI hsw hR hi hu, Option.bind_some]
          by_cases c3 : nI (aSn (mkK st wy wg false) a i) = a2
          · rw [if_pos c3, if_pos ⟨c, hu, c3⟩]
            rfl
          · rw [if_neg c3, if_neg (fun z => c3 z.2.2)]
      · rw [if_neg (fun z => c ((nI_eq (by omega) (by omega)).mp z)), if_neg (fun z => c z.1)]
    rw [e]
    refine ⟨fun l0 h1 h2 h3 h5 h6 h7 => ?_, fun hn => ?_⟩
    · by_cases c : i = l0
      · subst c
        rw [if_pos ⟨h3, h5, h6⟩]
      · rw [if_neg (fun z => c (h7 i hi z.1 z.2.1 z.2.2))]
        exact ih1 l0 (by omega) h2 h3 h5 h6 h7
    · rw [if_neg (fun z => hn i (by omega) hi z.1 z.2.1 z.2.2)]
      exact ih2 (fun l h1 h2 => hn l (by omega) h2)
theorem m_tag (hsw : zSW st wy) (hI : zIA B a) (hR : zRS (mkK st wy wg false) a used last shape dirty memory words) (hX : zRX a v0) (a1 a2 : Int32) :
    ∃ v t r, fX5_tag 1 rf (nI st) (nI st) last used a1 a2 = some (v, t) ∧ fX7_tag th tr wh s1 s2 s3 s4 (nI st) (nI wy) od v0 x a1 a2 = some (v, 0, t, -1, r) := by
  unfold fX5_tag fX7_tag
  rcases qSt hsw.2.1 a1 with ⟨h1, h2⟩ | ⟨s, hs, e1, h1, h2⟩
  · rw [h1, h2, Option.bind_some, Option.bind_some, if_pos rfl, if_pos rfl]
    exact ⟨_, _, _, rfl, rfl⟩
  · obtain ⟨y, f1, f2⟩ := pX7_works (s1 := s1) (s2 := s2) (s3 := s3) (cw := nI wy) (x := x) hX
    obtain ⟨od2, L2, g1, g2, g3, g4, g5⟩ := pX7_orders (wg := wg) (o := s4) (od := od) hI hsw f2 hs
    obtain ⟨t1, t2⟩ := pX5_tag_loop (hc := 1) (ps := nI st) (a2 := a2) (rf := rf) hsw hI hR hs 32 zF 0 (by omega) (zF_gt (by omega))
    have hmem : ∀ l, l ∈ L2 ↔ l < 32 ∧ l % st = s ∧ 0 < aU a l := fun l => by rw [g4.mem_iff]; exact aCs_mem hsw hs
    have hsn : ∀ (P R : List Nat) (l : Nat), L2 = P ++ l :: R → aSn (mkK st wy wg false) a l = R.length := fun P R l e => by
      have hl := (hmem l).mp (by rw [e]; simp)
      unfold aSn
      rw [show l % (mkK st wy wg false).1 = s from hl.2.1, ← (g4.filter _).length_eq]
      rw [e] at g3 ⊢
      exact zSo_since g3
    rw [h1, h2, Option.bind_some, Option.bind_some, if_neg (show ¬ (1 : Int32) = 0 by decide), if_neg (show ¬ (1 : Int32) = 0 by decide), e1, f1, Option.bind_some]
    rw [g1, Option.bind_some]
    have hnone : (∀ k, k < L2.length → ¬ nI k = a2) → fX5_tag_16 1 (nI st) (nI st) last used zF (nI s) a2 (nI 0) rf = some (-1, 1) := fun hk => t2 (fun l _ h32 hls hu z => by
      obtain ⟨P, R, e⟩ := List.append_of_mem ((hmem l).mpr ⟨h32, hls, hu⟩)
      rw [hsn P R l e] at z
      exact hk R.length (by rw [e]; simp; omega) z)
    rcases pk_ix a2 (n := L2.length) (by omega) with q | q | ⟨k, hk, e3⟩
    · have := hnone (fun k hk z => by rw [← z] at q; exact nI_pos (by omega) q)
      rw [show nI 0 = (0 : Int32) from rfl] at this
      rw [if_pos q, this]
      exact ⟨_, _, _, rfl, rfl⟩
    · by_cases c : a2 < 0
      · have := hnone (fun k hk z => by rw [← z] at c; exact nI_pos (by omega) c)
        rw [show nI 0 = (0 : Int32) from rfl] at this
        rw [if_pos c, this]
        exact ⟨_, _, _, rfl, rfl⟩
      · have := hnone (fun k hk z => by rw [← z] at q; exact nI_ge hk (by omega) q)
        rw [show nI 0 = (0 : Int32) from rfl] at this
        rw [if_neg c, if_neg (Int32.not_lt.mpr q), this]
        exact ⟨_, _, _, rfl, rfl⟩
    · obtain ⟨m, hm⟩ : ∃ m, L2.length = m + 1 + k := ⟨L2.length - 1 - k, by omega⟩
      have hmi : m < L2.length := by omega
      have hget : L2[m]? = some L2[m] := List.getElem?_eq_getElem hmi
      have hmm := (hmem L2[m]).mp (List.getElem_mem hmi)
      have hsp : L2 = L2.take m ++ L2[m] :: L2.drop (m + 1) := by
        rw [← List.drop_eq_getElem_cons hmi, List.take_append_drop]
      have hs1 := hsn _ _ _ hsp
      have hdl : (L2.drop (m + 1)).length = k := by rw [List.length_drop]; omega
      have := t1 L2[m] (Nat.zero_le _) hmm.1 hmm.2.1 hmm.2.2 (by rw [hs1, hdl, e3]) (fun l h32 hls hu z => by
        obtain ⟨P, R, e⟩ := List.append_of_mem ((hmem l).mpr ⟨h32, hls, hu⟩)
        rw [hsn P R l e, e3] at z
        have hlen : L2.length = P.length + R.length + 1 := by rw [e]; simp; omega
        have hRk := (nI_eq (by omega) (by omega)).mp z
        have hP : P.length = m := by omega
        have : L2[m]? = some l := by rw [e, ← hP]; simp
        rw [hget] at this
        exact (Option.some.inj this).symm)
      rw [show nI 0 = (0 : Int32) from rfl] at this
      rw [this, e3, if_neg (nI_pos (by omega)), if_pos (nI_lt hk (by omega)), zlet_e, zlet_e, hm, show nI (m + 1 + k) - 1 = nI (m + k) by rw [show m + 1 + k = m + k + 1 by omega]; exact nI_pred _, pk_sub (show k ≤ m + k by omega), show m + k - k = m by omega, zald_n (f := od2) (by omega) (by omega), g2 m _ hget]
      exact ⟨_, _, _, rfl, rfl⟩
theorem pX5_lines_loop (hI : zIA B a) (hR : zRS (mkK st wy wg false) a used last shape dirty memory words) (hX : zRX a v0) {hc : Int32} : ∀ (n N i c : Nat), i + n = 32 → n < N → ∃ v, fX5_lines_17 hc used N (nI c) (nI i) rf = some (v, 0) ∧ fX7_lines_22 v0 N (nI c) (nI i) th tr wh = some (v, th, 0, -1) := by
  intro n
  induction n with
  | zero =>
    intro N i c h hN
    obtain ⟨N, rfl⟩ : ∃ k, N = k + 1 := ⟨N - 1, by omega⟩
    rw [fX5_lines_17, if_pos (n32 (by omega) (by omega)), fX7_lines_22, if_pos (n32 (by omega) (by omega))]
    exact ⟨_, rfl, rfl⟩
  | succ n ih =>
    intro N i c h hN
    obtain ⟨N, rfl⟩ : ∃ k, N = k + 1 := ⟨N - 1, by omega⟩
    have hi : i < 32 := by omega
    rw [fX5_lines_17, if_neg (n32' hi), fX7_lines_22, if_neg (n32' hi)]
    simp only [zlet_e]
    rw [zald_n hi (by omega), show (512 : Int32) + nI i = nI (512 + i) from nI_add 512 i, zald_n (by omega) (by omega), (hR.1 i hi).1, (hX.1 i hi).1, show nI i + 1 = nI (i + 1) from nI_1 _, show nI c + 1 = nI (c + 1) from nI_1 _, show nI c + 0 = nI c from nI_add c 0]
    by_cases q : nI (aU a i) ≤ 0
    · rw [if_pos q, if_pos q]; exact ih N (i + 1) c (by omega) (by omega)
    · rw [if_neg q, if_neg q]; exact ih N (i + 1) (c + 1) (by omega) (by omega)
theorem m_lines (hI : zIA B a) (hR : zRS (mkK st wy wg false) a used last shape dirty memory words) (hX : zRX a v0) :
    ∃ v t, fX5_lines 1 rf used = some (v, t) ∧ fX7_lines th tr wh v0 = some (v, 0, t, -1) := by
  unfold fX5_lines fX7_lines
  rw [if_neg (show ¬ (1 : Int32) = 0 by decide)]
  obtain ⟨v, e1, e2⟩ := pX5_lines_loop (rf := rf) (th := 0) (tr := tr) (wh := wh) (hc := 1) hI hR hX 32 zF 0 0 (by omega) (zF_gt (by omega))
  exact ⟨v, 0, e1, e2⟩
/-- Euclid: the remainder of the remainder is less than half -/
theorem zhalf {x y : Nat} (hy : 0 < y) (hr : 0 < x % y) : 2 * (y % (x % y)) < y := by
  have h1 : x % y < y := Nat.mod_lt _ hy
  have h2 : y % (x % y) < x % y := Nat.mod_lt _ hr
  have h3 := Nat.div_add_mod y (x % y)
  have h4 : 1 ≤ y / (x % y) := Nat.div_pos (Nat.le_of_lt h1) hr
  have h5 : x % y * 1 ≤ x % y * (y / (x % y)) := Nat.mul_le_mul_left _ h4
  omega
theorem pX5_common_loop : ∀ (n N t x y : Nat), y < 2 ^ n → x < 2 ^ 20 → n ≤ 20 → t + 2 * n ≤ 64 → 2 * n < N → fX5_commonDivisor_7 N (nI x) (nI y) (nI t) = some (nI (Nat.gcd x y)) := by
  intro n
  induction n with
  | zero =>
    intro N t x y hy hx hn ht hN
    obtain ⟨N, rfl⟩ : ∃ k, N = k + 1 := ⟨N - 1, by omega⟩
    have : y = 0 := by simp at hy; exact hy
    rw [fX5_commonDivisor_7, this, Nat.gcd_zero_right]
    by_cases c : (64 : Int32) ≤ nI t
    · rw [if_pos c]
    · rw [if_neg c, if_pos (show nI 0 ≤ (0 : Int32) from Int32.le_refl _)]
  | succ n ih =>
    intro N t x y hy hx hn ht hN
    have hp : (2 : Nat) ^ (n + 1) ≤ 2 ^ 20 := Nat.pow_le_pow_right (by decide) hn
    obtain ⟨N, rfl⟩ : ∃ k, N = k + 1 := ⟨N - 1, by omega⟩
    rw [fX5_commonDivisor_7, if_neg (show ¬ (64 : Int32) ≤ nI t from nI_ge (a := t) (b := 64) (by omega) (by omega))]
    by_cases c : y = 0
    · rw [c, if_pos (show nI 0 ≤ (0 : Int32) from Int32.le_refl _), Nat.gcd_zero_right]
    · rw [if_neg (nI_nle (by omega) (by omega)), zrem_n (by omega) (by omega) (by omega), zlet_e, show nI t + 1 = nI (t + 1) from nI_1 _]
      obtain ⟨N, rfl⟩ : ∃ k, N = k + 1 := ⟨N - 1, by omega⟩
      have hmod : x % y < y := Nat.mod_lt _ (by omega)
      rw [fX5_commonDivisor_7, if_neg (show ¬ (64 : Int32) ≤ nI (t + 1) from nI_ge (a := t + 1) (b := 64) (by omega) (by omega))]
      have hg : Nat.gcd x y = Nat.gcd y (x % y) := by rw [Nat.gcd_comm x y, Nat.gcd_rec y x, Nat.gcd_comm]
      by_cases c2 : x % y = 0
      · rw [c2, if_pos (show nI 0 ≤ (0 : Int32) from Int32.le_refl _), hg, c2, Nat.gcd_zero_right]
      · rw [if_neg (nI_nle (by omega) (by omega)), zrem_n (by omega) (by omega) (by omega), zlet_e, show nI (t + 1) + 1 = nI (t + 1 + 1) from nI_1 _]
        have hh := zhalf (x := x) (y := y) (by omega) (by omega)
        have h2 : (2 : Nat) ^ (n + 1) = 2 ^ n * 2 := Nat.pow_succ 2 n
        rw [ih N (t + 1 + 1) (x % y) (y % (x % y)) (by omega) (by omega) (by omega) (by omega) (by omega), hg]
        congr 2
        rw [Nat.gcd_comm y (x % y), Nat.gcd_rec (x % y) y, Nat.gcd_comm]
theorem zreml_n {β : Type} {a d : Nat} {K : Int64 → Option β} (ha : a < 2 ^ 31) (h0 : 0 < d) (hd : d < 2 ^ 31) : zreml (lN a) (lN d) K = K (lN (a % d)) := by
  unfold zreml
  have hq : lN a / lN d = lN (a / d) := by
    apply Int64.toInt_inj.mp
    rw [lg_ldiv_nonneg (by rw [lN_toInt ha]; omega) (by rw [lN_toInt hd]; omega), lN_toInt ha, lN_toInt hd, lN_toInt (Nat.lt_of_le_of_lt (Nat.div_le_self a d) ha)]
    first | rfl | exact (Int.natCast_ediv _ _).symm
  have hm : a / d * d ≤ a := Nat.div_mul_le_self a d
  rw [if_neg (fun z => by have := (lN_eq (a := d) (b := 0) hd (by omega)).mp z; omega), hq, lN_mul, lN_sub hm]
  congr 2
  have := Nat.div_add_mod a d
  rw [Nat.mul_comm] at this
  omega
theorem zdivl_n {β : Type} {a d : Nat} {K : Int64 → Option β} (ha : a < 2 ^ 31) (h0 : 0 < d) (hd : d < 2 ^ 31) : zdivl (lN a) (lN d) K = K (lN (a / d)) := by
  unfold zdivl
  have hq : lN a / lN d = lN (a / d) := by
    apply Int64.toInt_inj.mp
    rw [lg_ldiv_nonneg (by rw [lN_toInt ha]; omega) (by rw [lN_toInt hd]; omega), lN_toInt ha, lN_toInt hd, lN_toInt (Nat.lt_of_le_of_lt (Nat.div_le_self a d) ha)]
    first | rfl | exact (Int.natCast_ediv _ _).symm
  rw [if_neg (fun z => by have := (lN_eq (a := d) (b := 0) hd (by omega)).mp z; omega), hq]
theorem pX7_common_loop : ∀ (n N x y : Nat), y ≤ n → n ≤ 10000 → x < 2 ^ 20 → n < N → fX7_common_6 N (lN x) (lN y) = some (lN (Nat.gcd x y)) := by
  intro n
  induction n with
  | zero =>
    intro N x y hy hn hx hN
    obtain ⟨N, rfl⟩ : ∃ k, N = k + 1 := ⟨N - 1, by omega⟩
    have : y = 0 := by omega
    rw [fX7_common_6, zlet_e, this, if_pos (show lg_cmp (lN 0) 0 = 0 from (lg_cmp_eq _ _).mpr rfl), Nat.gcd_zero_right]
  | succ n ih =>
    intro N x y hy hn hx hN
    obtain ⟨N, rfl⟩ : ∃ k, N = k + 1 := ⟨N - 1, by omega⟩
    rw [fX7_common_6, zlet_e]
    by_cases c : y = 0
    · rw [c, if_pos (show lg_cmp (lN 0) 0 = 0 from (lg_cmp_eq _ _).mpr rfl), Nat.gcd_zero_right]
    · have hmod : x % y < y := Nat.mod_lt _ (by omega)
      rw [if_neg (show ¬ lg_cmp (lN y) 0 = 0 from fun z => c ((lN_eq (a := y) (b := 0) (by omega) (by omega)).mp ((lg_cmp_eq _ _).mp z))), zreml_n (by omega) (by omega) (by omega), ih N y (x % y) (by omega) (by omega) (by omega) (by omega)]
      congr 2
      rw [Nat.gcd_comm x y, Nat.gcd_rec y x, Nat.gcd_comm]
theorem zby_le (f : Nat) : 1 ≤ zby f ∧ zby f ≤ 16 := by unfold zby; split <;> decide
theorem zfrac {r q : Nat} (hr : r ≤ 1000) (hq : q ≤ 1000) (h0 : 0 < q) (h1 : 0 < r) (b1 : Int32) {tr wh : Int32} : ∃ v, (∀ (rf hc : Int32) (sh us : Nat → Int32), ((fX5_commonDivisor (nI r) (nI q)).bind fun x1 => if 1 ≤ x1 then (if b1 = 0 then (fX5_ratio_97 hc sh us x1 (nI r) rf) else (fX5_ratio_97 hc sh us x1 (nI q) rf)) else ((fX5_pass rf 1).bind fun x2 => zlet (Int32.toInt64 x2.1 : Int64) fun x3 => some (x3, x2.2))) = some (v, 0)) ∧ fX7_fraction tr wh (Int32.toInt64 (nI r)) (Int32.toInt64 (nI q)) b1 = some (v, 0, -1) := by
  have hg : 0 < Nat.gcd r q := Nat.gcd_pos_of_pos_left _ h1
  have hgr : Nat.gcd r q ≤ r := Nat.gcd_le_left _ h1
  have e1 : fX5_commonDivisor (nI r) (nI q) = some (nI (Nat.gcd r q)) := pX5_common_loop 10 zF 0 r q (by omega) (by omega) (by omega) (by omega) (zF_gt (by omega))
  have e2 : fX7_common (lN r) (lN q) = some (lN (Nat.gcd r q)) := pX7_common_loop q zF r q (Nat.le_refl _) (by omega) (by omega) (zF_gt (by omega))
  have key : ∀ t, t ≤ 1000 → (∀ (rf hc : Int32) (sh us : Nat → Int32), fX5_ratio_97 hc sh us (nI (Nat.gcd r q)) (nI t) rf = some (lN (t / Nat.gcd r q), 0)) ∧ fX7_fraction_16 (lN r) (lN q) (lN t) 0 (-1) = some (lN (t / Nat.gcd r q), 0, -1) := by
    intro t ht
    have hle := Nat.div_le_self t (Nat.gcd r q)
    constructor
    · intro rf hc sh us
      unfold fX5_ratio_97
      rw [zdiv_n (by omega) hg (by omega)]
      unfold fX5_pass
      rw [Option.bind_some, zlet_e, nI_l (by omega)]
    · unfold fX7_fraction_16
      rw [e2, Option.bind_some, zdivl_n (by omega) hg (by omega)]
  unfold fX7_fraction fX7_good
  rw [Option.bind_some, nI_l (by omega), nI_l (by omega)]
  by_cases c : b1 = 0
  · refine ⟨lN (r / Nat.gcd r q), fun rf hc sh us => ?_, ?_⟩
    · rw [e1, Option.bind_some, if_pos (show (1 : Int32) ≤ nI (Nat.gcd r q) from nI_le (a := 1) (b := Nat.gcd r q) hg (by omega)), if_pos c]
      exact (key r hr).1 rf hc sh us
    · rw [if_pos c]
      exact (key r hr).2
  · refine ⟨lN (q / Nat.gcd r q), fun rf hc sh us => ?_, ?_⟩
    · rw [e1, Option.bind_some, if_pos (show (1 : Int32) ≤ nI (Nat.gcd r q) from nI_le (a := 1) (b := Nat.gcd r q) hg (by omega)), if_neg c]
      exact (key q hq).1 rf hc sh us
    · rw [if_neg c]
      exact (key q hq).2
theorem ratio_loop (hI : zIA B a) (hR : zRS (mkK st wy wg false) a used last shape dirty memory words) (hX : zRX a x) {hc b1 : Int32} {cw : Int32} {v0 : Nat → Int32} : ∀ (n N i r q : Nat), i + n = 32 → n < N → r ≤ 16 * i → q ≤ r → (r = 0 ↔ q = 0) → ∃ v, fX5_ratio_21 hc shape used N b1 (nI r) (nI q) (nI i) rf = some (v, 0) ∧ fX7_ratio_30 cw v0 N b1 (nI r) (nI q) (nI i) th tr wh s1 s2 s3 x = some (v, th, 0, -1, s1, s2, s3, x) := by
  have hB := hI.2.2.2
  intro n
  induction n with
  | zero =>
    intro N i r q h hN hr hq h0
    obtain ⟨N, rfl⟩ : ∃ k, N = k + 1 := ⟨N - 1, by omega⟩
    rw [fX5_ratio_21, if_pos (n32 (by omega) (by omega)), fX7_ratio_30, if_pos (n32 (by omega) (by omega))]
    by_cases c : r = 0
    · have cq := h0.mp c
      rw [c, cq, if_pos (show nI 0 = (0 : Int32) from rfl)]
      have e1 : fX5_commonDivisor (nI 0) (nI 0) = some (nI 0) := pX5_common_loop 10 zF 0 0 0 (by omega) (by omega) (by omega) (by omega) (zF_gt (by omega))
      have e2 : fX7_fraction tr wh 1 1 b1 = some (lN 1, 0, -1) := by
        obtain ⟨v, k1, k2⟩ := zfrac (r := 1) (q := 1) (tr := tr) (wh := wh) (by omega) (by omega) (by omega) (by omega) b1
        have k3 := k1 0 0 shape shape
        have e3 : fX5_commonDivisor (nI 1) (nI 1) = some (nI 1) := pX5_common_loop 10 zF 0 1 1 (by omega) (by omega) (by omega) (by omega) (zF_gt (by omega))
        rw [e3, Option.bind_some, if_pos (show (1 : Int32) ≤ nI 1 from Int32.le_refl _)] at k3
        have k4 : fX5_ratio_97 0 shape shape (nI 1) (nI 1) 0 = some (lN 1, 0) := by
          unfold fX5_ratio_97
          rw [zdiv_n (by omega) (by omega) (by omega)]
          rfl
        have k5 : v = lN 1 := by
          by_cases c : b1 = 0
          · rw [if_pos c, k4] at k3
            exact (Prod.mk.inj (Option.some.inj k3)).1.symm
          · rw [if_neg c, k4] at k3
            exact (Prod.mk.inj (Option.some.inj k3)).1.symm
        rw [k5] at k2
        exact k2
      rw [e1, Option.bind_some, if_neg (show ¬ (1 : Int32) ≤ nI 0 by decide), e2, Option.bind_some]
      exact ⟨lN 1, rfl, rfl⟩
    · obtain ⟨v, k1, k2⟩ := zfrac (r := r) (q := q) (tr := tr) (wh := wh) (by omega) (by omega) (by omega) (by omega) b1
      rw [if_neg (show ¬ nI r = (0 : Int32) from nI_ne0 (by omega) (by omega)), zlet_e, zlet_e, k2, Option.bind_some]
      exact ⟨v, k1 rf hc shape used, rfl⟩
  | succ n ih =>
    intro N i r q h hN hr hq h0
    obtain ⟨N, rfl⟩ : ∃ k, N = k + 1 := ⟨N - 1, by omega⟩
    have hi : i < 32 := by omega
    have hb := (hI.1 i hi).2.2.2.1
    rw [fX5_ratio_21, if_neg (n32' hi), fX7_ratio_30, if_neg (n32' hi), zald_n hi (by omega), pX7_isCachedNow hi, Option.bind_some, (hR.1 i hi).1, (hX.1 i hi).1]
    simp only [zlet_e]
    rw [show nI i + 1 = nI (i + 1) from nI_1 _]
    by_cases c : aU a i = 0
    · have c' : nI (aU a i) ≤ 0 := (nI_le0 (by omega)).mpr c
      rw [if_pos c', if_pos c', if_pos rfl]
      exact ih N (i + 1) r q (by omega) (by omega) (by omega) hq h0
    · have c' : ¬ nI (aU a i) ≤ 0 := fun z => c ((nI_le0 (by omega)).mp z)
      have hz := zform_lt (aLw a i)
      have hzb := zby_le (zform (aLw a i))
      rw [if_neg c', if_neg c', if_neg (show ¬ (1 : Int32) = 0 by decide), zald_n hi (by omega), ((hR.1 i hi).2.2 (by omega)).2, show kF (mkK st wy wg false) (aLw a i) = zform (aLw a i) from rfl, zald_n hz (by omega), zby_v hz, pX7_formOf hi (zRX_W hI hX hi), Option.bind_some, pX7_bytesOf hz, Option.bind_some, nI_add, show nI r + 16 = nI (r + 16) from nI_add r 16]
      exact ih N (i + 1) (r + 16) (q + zby (zform (aLw a i))) (by omega) (by omega) (by omega) (by omega) (by omega)
theorem m_ratio (hI : zIA B a) (hR : zRS (mkK st wy wg false) a used last shape dirty memory words) (hX : zRX a v0) (a1 : Int32) :
    ∃ v t r, fX5_ratio 1 rf shape used a1 = some (v, t) ∧ fX7_ratio th tr wh s1 s2 s3 cw v0 x a1 = some (v, 0, t, -1, r) := by
  obtain ⟨y, f1, f2⟩ := pX7_works (s1 := s1) (s2 := s2) (s3 := s3) (cw := cw) (x := x) hX
  unfold fX5_ratio fX7_ratio
  rw [if_neg (show ¬ (1 : Int32) = 0 by decide), f1, Option.bind_some]
  obtain ⟨v, e1, e2⟩ := ratio_loop (rf := rf) (th := 0) (tr := tr) (wh := wh) (s1 := cw) (s2 := 0) (s3 := 0) (hc := 1) (b1 := a1) (cw := cw) (v0 := v0) hI hR f2 32 zF 0 0 0 (by omega) (zF_gt (by omega)) (by omega) (by omega) (by omega)
  exact ⟨v, 0, _, e1, e2⟩
end Q3
