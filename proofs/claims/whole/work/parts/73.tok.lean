/-! ===== the parse: names, runs of letters and digits ===== -/
/-- the names' letters -/
def zsc (j : Nat) : List Nat := match j with
  | 0 => [99, 97, 99, 104, 101] | 1 => [115, 101, 116, 115] | 2 => [119, 97, 121, 115] | 3 => [108, 97, 116, 101, 108, 121] | 4 => [119, 101, 105, 103, 104, 101, 100] | 5 => [108, 105, 110, 101] | 6 => [114, 101, 97, 100] | 7 => [119, 114, 105, 116, 101] | 8 => [117, 110, 115, 117, 114, 101] | 9 => [115, 97, 119] | 10 => [104, 105, 116] | 11 => [109, 105, 115, 115]
  | 13 => [99, 97, 99, 104, 101] | 14 => [115, 101, 116, 115] | 15 => [119, 97, 121, 115] | 16 => [119, 101, 105, 103, 104, 101, 100] | 17 => [108, 97, 116, 101, 108, 121] | 18 => [108, 105, 110, 101] | 19 => [114, 101, 97, 100] | 20 => [119, 114, 105, 116, 101] | 21 => [117, 110, 115, 117, 114, 101] | 22 => [115, 97, 119] | 23 => [104, 105, 116] | 24 => [109, 105, 115, 115]
  | _ => []
theorem zsc_len : ∀ j : Fin 25, j.val ≠ 12 → fJ_len j.val = some (nI (zsc j.val).length) := by decide +kernel
theorem zsc_at : ∀ j : Fin 25, j.val ≠ 12 → ∀ i : Fin 7, i.val < (zsc j.val).length → fJ_charAt j.val (nI i.val) = some (nI ((zsc j.val).getD i.val 0)) := by decide +kernel
theorem zsc_ok : ∀ j : Fin 25, (zsc j.val).length ≤ 7 ∧ ∀ c ∈ zsc j.val, 97 ≤ c ∧ c ≤ 122 := by decide +kernel
/-- letters as a number -/
def zvL (W : List Nat) : Nat := W.foldl (fun v c => 32 * v + (c - 96)) 0
theorem zvL_snoc (W : List Nat) (c : Nat) : zvL (W ++ [c]) = 32 * zvL W + (c - 96) := by simp [zvL]
theorem zvL_lt : ∀ (W : List Nat), (∀ c ∈ W, 97 ≤ c ∧ c ≤ 122) → zvL W < 32 ^ W.length := by
  intro W
  induction hn : W.length generalizing W with
  | zero => intro _; rw [List.length_eq_zero_iff.mp hn]; decide
  | succ n ih =>
    intro h
    obtain ⟨V, c, rfl⟩ : ∃ V c, W = V ++ [c] := by
      rcases List.eq_nil_or_concat W with e | ⟨V, c, e⟩
      · rw [e] at hn; simp at hn
      · exact ⟨V, c, by simpa using e⟩
    have hv := ih V (by simpa using hn) (fun d hd => h d (by simp [hd]))
    have hc := h c (by simp)
    rw [zvL_snoc, Nat.pow_succ]
    omega
theorem zvL_inj : ∀ (W V : List Nat), (∀ c ∈ W, 97 ≤ c ∧ c ≤ 122) → (∀ c ∈ V, 97 ≤ c ∧ c ≤ 122) → zvL W = zvL V → W = V := by
  intro W
  induction hn : W.length generalizing W with
  | zero =>
    intro V hW hV e
    have e0 : W = [] := List.length_eq_zero_iff.mp hn
    rcases List.eq_nil_or_concat V with z | ⟨U, c, z⟩
    · rw [e0, z]
    · have z : V = U ++ [c] := by simpa using z
      have hc := hV c (by rw [z]; simp)
      rw [e0, z, zvL_snoc] at e
      have : zvL [] = 0 := rfl
      omega
  | succ n ih =>
    intro V hW hV e
    obtain ⟨A, c, rfl⟩ : ∃ V c, W = V ++ [c] := by
      rcases List.eq_nil_or_concat W with e | ⟨V, c, e⟩
      · rw [e] at hn; simp at hn
      · exact ⟨V, c, by simpa using e⟩
    have hc := hW c (by simp)
    rcases List.eq_nil_or_concat V with z | ⟨U, d, z⟩
    · rw [z, zvL_snoc] at e
      have : zvL [] = 0 := rfl
      omega
    · have z : V = U ++ [d] := by simpa using z
      have hd := hV d (by rw [z]; simp)
      rw [z, zvL_snoc, zvL_snoc] at e
      have e1 : c = d := by omega
      have e2 := ih A (by simpa using hn) U (fun x hx => hW x (by simp [hx])) (fun x hx => hV x (by rw [z]; simp [hx])) (by omega)
      rw [z, e1, e2]
theorem lN_eq63 {a b : Nat} (ha : a < 2 ^ 63) (hb : b < 2 ^ 63) : lN a = lN b ↔ a = b := by
  constructor
  · intro h
    have := congrArg Int64.toInt h
    rw [show (lN a).toInt = a from lg_ofNat_toInt ha, show (lN b).toInt = b from lg_ofNat_toInt hb] at this
    exact Int.ofNat.inj this
  · intro h; rw [h]
/-- a name as a number -/
def zpk (j : Nat) : Nat := zvL (zsc j)
theorem zpk_lt {j : Nat} (hj : j < 25) : zpk j < 2 ^ 40 := by
  obtain ⟨h1, h2⟩ := zsc_ok ⟨j, hj⟩
  have := zvL_lt (zsc j) h2
  have h3 : (32 : Nat) ^ (zsc j).length ≤ 32 ^ 8 := Nat.pow_le_pow_right (by decide) (by simp at h1; omega)
  have h4 : (32 : Nat) ^ 8 = 2 ^ 40 := by decide
  unfold zpk
  omega
theorem pX7_packed_loop {j : Nat} (hj : j < 25) (h12 : j ≠ 12) : ∀ (m N : Nat) (P : List Nat), P ++ (zsc j).drop P.length = zsc j → P.length + m = (zsc j).length → m < N → fX7_packed_4 j N (lN (zvL P)) (nI P.length) = some (lN (zpk j)) := by
  obtain ⟨h1, h2⟩ := zsc_ok ⟨j, hj⟩
  simp at h1
  have hlen := zsc_len ⟨j, hj⟩ h12
  simp at hlen
  intro m
  induction m with
  | zero =>
    intro N P e hP hN
    obtain ⟨N, rfl⟩ : ∃ k, N = k + 1 := ⟨N - 1, by omega⟩
    have : P = zsc j := by
      rw [List.drop_eq_nil_of_le (by omega), List.append_nil] at e
      exact e
    rw [fX7_packed_4, hlen, Option.bind_some, if_pos (nI_le (by omega) (by omega)), this]
    rfl
  | succ m ih =>
    intro N P e hP hN
    obtain ⟨N, rfl⟩ : ∃ k, N = k + 1 := ⟨N - 1, by omega⟩
    have hi : P.length < (zsc j).length := by omega
    have hat := zsc_at ⟨j, hj⟩ h12 ⟨P.length, by omega⟩ hi
    simp at hat
    have hg : (zsc j)[P.length]?.getD 0 = (zsc j)[P.length] := by rw [List.getElem?_eq_getElem hi]; rfl
    have hc := h2 (zsc j)[P.length] (List.getElem_mem hi)
    rw [fX7_packed_4, hlen, Option.bind_some, if_neg (nI_ge hi (by omega)), zlet_e, hat, hg, Option.bind_some]
    simp only [zlet_e]
    rw [show nI (zsc j)[P.length] - 97 = nI ((zsc j)[P.length] - 97) from pk_sub (a := (zsc j)[P.length]) (b := 97) hc.1, show nI ((zsc j)[P.length] - 97) + 1 = nI ((zsc j)[P.length] - 97 + 1) from nI_1 _, nI_l (by omega), show (32 : Int64) * lN (zvL P) = lN (32 * zvL P) from lN_mul 32 _, lN_add, show nI P.length + 1 = nI (P.length + 1) from nI_1 _]
    have := ih N (P ++ [(zsc j)[P.length]]) (by
      rw [List.append_assoc]
      simp
      exact e) (by simp; omega) (by omega)
    rw [zvL_snoc] at this
    simp at this
    rw [show (zsc j)[P.length] - 97 + 1 = (zsc j)[P.length] - 96 by omega]
    exact this
theorem pX7_packed {j : Nat} (hj : j < 25) (h12 : j ≠ 12) : fX7_packed j = some (lN (zpk j)) := by
  have h1 := (zsc_ok ⟨j, hj⟩).1
  simp at h1
  exact pX7_packed_loop hj h12 (zsc j).length zF [] (by simp) (by simp) (zF_gt (by omega))
theorem pX7_isWord {j v : Nat} (hj : j < 25) (h12 : j ≠ 12) (hv : v < 2 ^ 40) {so : Int32} {le : Int64} (h : so = 2 → le = lN v) : fX7_isWord j so le = some (zbi (decide (so = 2 ∧ v = zpk j))) := by
  have hp := zpk_lt hj
  unfold fX7_isWord
  by_cases c : so = 2
  · rw [if_pos c, pX7_packed hj h12, Option.bind_some, zlet_e, h c]
    by_cases c2 : v = zpk j
    · rw [if_pos ((lg_cmp_eq _ _).mpr (by rw [c2])), decide_eq_true (show so = 2 ∧ v = zpk j from ⟨c, c2⟩)]
      rfl
    · rw [if_neg (fun z => c2 ((lN_eq63 (by omega) (by omega)).mp ((lg_cmp_eq _ _).mp z))), decide_eq_false (show ¬ (so = 2 ∧ v = zpk j) from fun z => c2 z.2)]
      rfl
  · rw [if_neg c, decide_eq_false (show ¬ (so = 2 ∧ v = zpk j) from fun z => c z.1)]
    rfl
/-- the text: C its signs (200: no sign of ours) -/
def zTx (tp tq : Nat → Int32) (n : Nat) (C : Nat → Nat) : Prop := n ≤ 1200 ∧ ∀ j, j < n → (C j < 128 ∧ tp j = nI (C j) ∧ tq j &&& 255 = nI (C j)) ∨ (C j = 200 ∧ tp j < 0 ∧ ∃ m, 128 ≤ m ∧ m < 256 ∧ tq j &&& 255 = nI m)
def zIn (lo hi c : Nat) : Bool := decide (lo ≤ c ∧ c ≤ hi)
/-- the run of such signs -/
def zrL (P : Nat → Bool) (C : Nat → Nat) (n : Nat) : Nat → Nat → List Nat
  | 0, _ => []
  | m + 1, p => if p < n ∧ P (C p) = true then C p :: zrL P C n m (p + 1) else []
section TOK
variable {tp tq : Nat → Int32} {n : Nat} {C : Nat → Nat}
theorem zrL_all {P : Nat → Bool} : ∀ {m p c : Nat}, c ∈ zrL P C n m p → P c = true
  | 0, p, c, h => by cases h
  | m + 1, p, c, h => by
    unfold zrL at h
    split at h
    · rename_i q
      rcases List.mem_cons.mp h with e | e
      · rw [e]; exact q.2
      · exact zrL_all e
    · cases h
theorem zrL_at {P : Nat → Bool} : ∀ {m p i c : Nat}, (zrL P C n m p)[i]? = some c → c = C (p + i) ∧ p + i < n
  | 0, p, i, c, h => by simp [zrL] at h
  | m + 1, p, i, c, h => by
    unfold zrL at h
    split at h
    · rename_i q
      cases i with
      | zero => simp at h; exact ⟨h.symm, q.1⟩
      | succ i =>
        have := zrL_at (P := P) (m := m) (p := p + 1) (i := i) (c := c) (by simpa using h)
        rw [show p + 1 + i = p + (i + 1) by omega] at this
        exact this
    · simp at h
theorem zrL_len {P : Nat → Bool} : ∀ {m p : Nat}, (zrL P C n m p).length ≤ m
  | 0, p => by simp [zrL]
  | m + 1, p => by
    unfold zrL
    split
    · have := zrL_len (P := P) (m := m) (p := p + 1)
      simp; omega
    · simp
theorem tx_in (h : zTx tp tq n C) {j lo hi : Nat} (hj : j < n) (hh : hi < 128) (hl : lo ≤ hi) : (zIn lo hi (C j) = true ∧ ¬ tp j < nI lo ∧ ¬ nI hi < tp j) ∨ (zIn lo hi (C j) = false ∧ (tp j < nI lo ∨ nI hi < tp j)) := by
  unfold zIn
  rcases h.2 j hj with ⟨h1, h2, h3⟩ | ⟨h1, h2, m, h3, h4, h5⟩
  · by_cases c : lo ≤ C j ∧ C j ≤ hi
    · exact Or.inl ⟨decide_eq_true c, by rw [h2]; exact nI_nlt c.1 (by omega), by rw [h2]; exact nI_nlt c.2 (by omega)⟩
    · refine Or.inr ⟨decide_eq_false c, ?_⟩
      rw [h2]
      by_cases c2 : C j < lo
      · exact Or.inl (nI_lt c2 (by omega))
      · exact Or.inr (nI_lt (by omega) (by omega))
  · refine Or.inr ⟨decide_eq_false (by omega), Or.inl ?_⟩
    have h0 : (0 : Int32) ≤ nI lo := nI_pos' (by omega)
    rw [i_lt] at h2 ⊢
    rw [i_le] at h0
    omega
theorem tx_eq (h : zTx tp tq n C) {j c : Nat} (hj : j < n) (hc : c < 128) : tp j = nI c ↔ C j = c := by
  rcases h.2 j hj with ⟨h1, h2, h3⟩ | ⟨h1, h2, m, h3, h4, h5⟩
  · rw [h2]; exact nI_eq (by omega) (by omega)
  · constructor
    · intro z; rw [z] at h2; exact absurd h2 (nI_pos (by omega))
    · intro z; omega
theorem pX7_byteAt_out {p : Nat} (hp : n ≤ p) (hp2 : p ≤ 2000) : fX7_byteAt (nI n) tq (nI p) = some (-1) := by
  unfold fX7_byteAt
  rw [if_pos (nI_le hp (by omega))]
/-- the byte, as the model sees it -/
theorem tx_m (h : zTx tp tq n C) {j : Nat} (hj : j < n) : ∃ m, m < 256 ∧ fX7_byteAt (nI n) tq (nI j) = some (nI m) ∧ (m < 128 → C j = m) ∧ (C j < 128 → m = C j) := by
  have h12 := h.1
  unfold fX7_byteAt
  rw [if_neg (nI_ge hj (by omega)), zald_n (by omega) (by omega), zlet_e]
  rcases h.2 j hj with ⟨h1, h2, h3⟩ | ⟨h1, h2, m, h3, h4, h5⟩
  · exact ⟨C j, by omega, by rw [h3], fun _ => rfl, fun _ => rfl⟩
  · exact ⟨m, h4, by rw [h5], fun z => by omega, fun z => by omega⟩
theorem pX7_isLD {m : Nat} (hm : m < 256) : fX7_isLetter (nI m) = some (zbi (zIn 97 122 m)) ∧ fX7_isDigit (nI m) = some (zbi (zIn 48 57 m)) := by
  unfold fX7_isLetter fX7_isDigit zIn
  constructor
  · by_cases c : m < 97
    · rw [if_pos (show nI m < 97 from nI_lt (a := m) (b := 97) c (by omega)), decide_eq_false (by omega)]; rfl
    · rw [if_neg (show ¬ nI m < 97 from nI_nlt (a := m) (b := 97) (by omega) (by omega))]
      by_cases c2 : 122 < m
      · rw [if_pos (show (122 : Int32) < nI m from nI_lt (a := 122) (b := m) c2 (by omega)), decide_eq_false (by omega)]; rfl
      · rw [if_neg (show ¬ (122 : Int32) < nI m from nI_nlt (a := 122) (b := m) (by omega) (by omega)), decide_eq_true (by omega)]; rfl
  · by_cases c : m < 48
    · rw [if_pos (show nI m < 48 from nI_lt (a := m) (b := 48) c (by omega)), decide_eq_false (by omega)]; rfl
    · rw [if_neg (show ¬ nI m < 48 from nI_nlt (a := m) (b := 48) (by omega) (by omega))]
      by_cases c2 : 57 < m
      · rw [if_pos (show (57 : Int32) < nI m from nI_lt (a := 57) (b := m) c2 (by omega)), decide_eq_false (by omega)]; rfl
      · rw [if_neg (show ¬ (57 : Int32) < nI m from nI_nlt (a := 57) (b := m) (by omega) (by omega)), decide_eq_true (by omega)]; rfl
/-- digits as a number -/
def zvD (v : Nat) (W : List Nat) : Nat := W.foldl (fun v c => 10 * v + c - 48) v
theorem pX4_run (h : zTx tp tq n C) {lo hi : Nat} (hh : hi < 128) (hl : lo ≤ hi) : ∀ (m N p : Nat) (va : Int32), p + m = n → m < N →
    ∃ va', fX4_takeRun_5 (nI n) tp N (nI lo) (nI hi) (nI p) va = some (nI (p + (zrL (zIn lo hi) C n m p).length), va') ∧ (lo = 48 → ∀ v, va = nI v → va' = nI (zvD v (zrL (zIn lo hi) C n m p))) := by
  have h12 := h.1
  intro m
  induction m with
  | zero =>
    intro N p va e hN
    obtain ⟨N, rfl⟩ : ∃ k, N = k + 1 := ⟨N - 1, by omega⟩
    rw [fX4_takeRun_5, if_pos (nI_le (by omega) (by omega))]
    exact ⟨va, rfl, fun _ v hv => hv⟩
  | succ m ih =>
    intro N p va e hN
    obtain ⟨N, rfl⟩ : ∃ k, N = k + 1 := ⟨N - 1, by omega⟩
    have hp : p < n := by omega
    rw [fX4_takeRun_5, if_neg (nI_ge hp (by omega)), zald_n (by omega) (by omega), zald_n (by omega) (by omega), zlet_e, zald_n (by omega) (by omega)]
    simp only [zlet_e]
    rw [show nI p + 1 = nI (p + 1) from nI_1 _]
    unfold zrL
    rcases tx_in h hp hh hl with ⟨c1, c2, c3⟩ | ⟨c1, c2⟩
    · rw [if_neg c2, if_neg c3, if_pos ⟨hp, c1⟩]
      obtain ⟨va', f1, f2⟩ := ih N (p + 1) (10 * va + tp p - nI lo) (by omega) (by omega)
      refine ⟨va', ?_, fun hlo v hv => ?_⟩
      · rw [f1, List.length_cons, show p + 1 + (zrL (zIn lo hi) C n m (p + 1)).length = p + ((zrL (zIn lo hi) C n m (p + 1)).length + 1) by omega]
      · have hc := of_decide_eq_true c1
        have htp : tp p = nI (C p) := (tx_eq h hp (by omega)).mpr rfl
        show va' = nI (zvD (10 * v + C p - 48) _)
        refine f2 hlo _ ?_
        rw [hv, htp, show (10 : Int32) * nI v = nI (10 * v) from pk_mul 10 v, nI_add, pk_sub (by omega), hlo]
    · rw [if_neg (show ¬ (p < n ∧ zIn lo hi (C p) = true) from fun z => by rw [c1] at z; exact Bool.noConfusion z.2)]
      by_cases c : tp p < nI lo
      · rw [if_pos c]; exact ⟨va, rfl, fun _ v hv => hv⟩
      · rw [if_neg c, if_pos (c2.resolve_left c)]; exact ⟨va, rfl, fun _ v hv => hv⟩
theorem tx_run (h : zTx tp tq n C) {p m lo hi : Nat} (hm : m < 256) (hp : p < n) (hh : hi < 128) (q1 : m < 128 → C p = m) (q2 : C p < 128 → m = C p) : zIn lo hi m = zIn lo hi (C p) := by
  unfold zIn
  rcases h.2 p hp with ⟨h1, -, -⟩ | ⟨h1, -, -⟩
  · rw [q2 h1]
  · have : 128 ≤ m := by
      by_cases c : m < 128
      · have := q1 c; omega
      · omega
    rw [decide_eq_false (by omega), decide_eq_false (by omega)]
theorem pX7_dig (h : zTx tp tq n C) {pl : Int32} {le : Int64} : ∀ (m N p c : Nat) (nu : Int32), c ≤ p → p + m = n → m < N →
    ∃ nu', fX7_goesOn_173 (nI n) tq N (nI c) (nI p) 0 pl nu le = some (nI (p + (zrL (zIn 48 57) C n m p).length), (if 5 < c + (zrL (zIn 48 57) C n m p).length then 0 else 3), pl, nu', le) ∧ (c + (zrL (zIn 48 57) C n m p).length ≤ 5 → ∀ v, nu = nI v → nu' = nI (zvD v (zrL (zIn 48 57) C n m p))) := by
  have h12 := h.1
  have fin : ∀ (N p c : Nat) (nu : Int32), c ≤ 5000 → (∃ x1, fX7_byteAt (nI n) tq (nI p) = some x1 ∧ fX7_isDigit x1 = some 0) → fX7_goesOn_173 (nI n) tq (N + 1) (nI c) (nI p) 0 pl nu le = some (nI (p + 0), (if 5 < c + 0 then 0 else 3), pl, nu, le) := by
    intro N p c nu hc ⟨x1, e1, e2⟩
    rw [fX7_goesOn_173, e1, Option.bind_some, e2, Option.bind_some, if_pos rfl]
    by_cases q : 5 < c
    · rw [if_pos (show (5 : Int32) < nI c from nI_lt (a := 5) (b := c) q (by omega)), if_pos (by omega)]; rfl
    · rw [if_neg (show ¬ (5 : Int32) < nI c from nI_nlt (a := 5) (b := c) (by omega) (by omega)), if_neg (by omega)]; rfl
  have key : ∀ (m N p c : Nat) (nu : Int32), c ≤ p → p + m = n → m < N →
    ∃ nu', fX7_goesOn_173 (nI n) tq N (nI c) (nI p) 0 pl nu le = some (nI (p + (zrL (zIn 48 57) C n m p).length), (if 5 < c + (zrL (zIn 48 57) C n m p).length then 0 else 3), pl, nu', le) ∧ (c + (zrL (zIn 48 57) C n m p).length ≤ 5 → ∀ v, nu = nI v → nu' = nI (zvD v (zrL (zIn 48 57) C n m p))) := by
    intro m
    induction m with
    | zero =>
      intro N p c nu hcp e hN
      obtain ⟨N, rfl⟩ : ∃ k, N = k + 1 := ⟨N - 1, by omega⟩
      exact ⟨nu, fin N p c nu (by omega) ⟨-1, pX7_byteAt_out (by omega) (by omega), by decide⟩, fun _ v hv => hv⟩
    | succ m ih =>
      intro N p c nu hcp e hN
      obtain ⟨N, rfl⟩ : ∃ k, N = k + 1 := ⟨N - 1, by omega⟩
      have hp : p < n := by omega
      obtain ⟨b, hb, hby, q1, q2⟩ := tx_m h hp
      have hd := (pX7_isLD hb).2
      rw [tx_run h hb hp (by omega) q1 q2] at hd
      unfold zrL
      cases hz : zIn 48 57 (C p) with
      | false =>
        rw [hz] at hd
        rw [if_neg (fun z => Bool.noConfusion z.2)]
        exact ⟨nu, fin N p c nu (by omega) ⟨nI b, hby, hd⟩, fun _ v hv => hv⟩
      | true =>
        rw [hz] at hd
        have hc := of_decide_eq_true hz
        have hbC := q2 (by omega)
        rw [if_pos ⟨hp, rfl⟩, fX7_goesOn_173, hby, Option.bind_some, hd, Option.bind_some, if_neg (show ¬ zbi true = 0 by decide)]
        have hl : p + 1 + (zrL (zIn 48 57) C n m (p + 1)).length = p + (C p :: zrL (zIn 48 57) C n m (p + 1)).length := by simp; omega
        have hl2 : c + 1 + (zrL (zIn 48 57) C n m (p + 1)).length = c + (C p :: zrL (zIn 48 57) C n m (p + 1)).length := by simp; omega
        by_cases q : 5 ≤ c
        · obtain ⟨nu', f1, f2⟩ := ih N (p + 1) (c + 1) nu (by omega) (by omega) (by omega)
          rw [if_pos (show (5 : Int32) ≤ nI c from nI_le (a := 5) (b := c) q (by omega))]
          unfold fX7_goesOn_215
          rw [zlet_e, zlet_e, show nI c + 1 = nI (c + 1) from nI_1 _, show nI p + 1 = nI (p + 1) from nI_1 _, f1, hl, hl2]
          exact ⟨nu', rfl, fun z => by simp at z; omega⟩
        · obtain ⟨nu', f1, f2⟩ := ih N (p + 1) (c + 1) (10 * nu + nI b - 48) (by omega) (by omega) (by omega)
          rw [if_neg (show ¬ (5 : Int32) ≤ nI c from nI_ge (a := c) (b := 5) (by omega) (by omega)), zlet_e, Option.bind_some, zlet_e, zlet_e]
          unfold fX7_goesOn_215
          rw [zlet_e, zlet_e, show nI c + 1 = nI (c + 1) from nI_1 _, show nI p + 1 = nI (p + 1) from nI_1 _, f1, hl, hl2]
          refine ⟨nu', rfl, fun z v hv => ?_⟩
          show nu' = nI (zvD (10 * v + C p - 48) _)
          refine f2 (by rw [hl2]; exact z) _ ?_
          rw [hv, hbC, show (10 : Int32) * nI v = nI (10 * v) from pk_mul 10 v, nI_add, show nI (10 * v + C p) - 48 = nI (10 * v + C p - 48) from pk_sub (a := 10 * v + C p) (b := 48) (by omega)]
  exact key
end TOK
