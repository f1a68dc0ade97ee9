/-! ===== tokens, both sides ===== -/
section TOK2
variable {tp tq : Nat → Int32} {n : Nat} {C : Nat → Nat}
theorem pX7_let (h : zTx tp tq n C) {pl nu : Int32} : ∀ (m N p c : Nat) (le : Int64), c ≤ p → p + m = n → m < N →
    ∃ le', fX7_goesOn_84 (nI n) tq N (nI c) (nI p) 0 pl nu le = some (nI (p + (zrL (zIn 97 122) C n m p).length), (if 8 < c + (zrL (zIn 97 122) C n m p).length then 0 else 2), pl, nu, le') ∧ (c + (zrL (zIn 97 122) C n m p).length ≤ 8 → ∀ v, le = lN v → le' = lN ((zrL (zIn 97 122) C n m p).foldl (fun v c => 32 * v + (c - 96)) v)) := by
  have h12 := h.1
  have fin : ∀ (N p c : Nat) (le : Int64), c ≤ 5000 → (∃ x1, fX7_byteAt (nI n) tq (nI p) = some x1 ∧ fX7_isLetter x1 = some 0) → fX7_goesOn_84 (nI n) tq (N + 1) (nI c) (nI p) 0 pl nu le = some (nI (p + 0), (if 8 < c + 0 then 0 else 2), pl, nu, le) := by
    intro N p c le hc ⟨x1, e1, e2⟩
    rw [fX7_goesOn_84, e1, Option.bind_some, e2, Option.bind_some, if_pos rfl]
    by_cases q : 8 < c
    · rw [if_pos (show (8 : Int32) < nI c from nI_lt (a := 8) (b := c) q (by omega)), if_pos (by omega)]; rfl
    · rw [if_neg (show ¬ (8 : Int32) < nI c from nI_nlt (a := 8) (b := c) (by omega) (by omega)), if_neg (by omega)]; rfl
  intro m
  induction m with
  | zero =>
    intro N p c le hcp e hN
    obtain ⟨N, rfl⟩ : ∃ k, N = k + 1 := ⟨N - 1, by omega⟩
    exact ⟨le, fin N p c le (by omega) ⟨-1, pX7_byteAt_out (by omega) (by omega), by decide⟩, fun _ v hv => hv⟩
  | succ m ih =>
    intro N p c le hcp e hN
    obtain ⟨N, rfl⟩ : ∃ k, N = k + 1 := ⟨N - 1, by omega⟩
    have hp : p < n := by omega
    obtain ⟨b, hb, hby, q1, q2⟩ := tx_m h hp
    have hd := (pX7_isLD hb).1
    rw [tx_run h hb hp (by omega) q1 q2] at hd
    unfold zrL
    cases hz : zIn 97 122 (C p) with
    | false =>
      rw [hz] at hd
      rw [if_neg (fun z => Bool.noConfusion z.2)]
      exact ⟨le, fin N p c le (by omega) ⟨nI b, hby, hd⟩, fun _ v hv => hv⟩
    | true =>
      rw [hz] at hd
      have hc := of_decide_eq_true hz
      have hbC := q2 (by omega)
      rw [if_pos ⟨hp, rfl⟩, fX7_goesOn_84, hby, Option.bind_some, hd, Option.bind_some, if_neg (show ¬ zbi true = 0 by decide)]
      have hl : p + 1 + (zrL (zIn 97 122) C n m (p + 1)).length = p + (C p :: zrL (zIn 97 122) C n m (p + 1)).length := by simp; omega
      have hl2 : c + 1 + (zrL (zIn 97 122) C n m (p + 1)).length = c + (C p :: zrL (zIn 97 122) C n m (p + 1)).length := by simp; omega
      by_cases q : 8 ≤ c
      · obtain ⟨le', f1, f2⟩ := ih N (p + 1) (c + 1) le (by omega) (by omega) (by omega)
        rw [if_pos (show (8 : Int32) ≤ nI c from nI_le (a := 8) (b := c) q (by omega))]
        unfold fX7_goesOn_131
        rw [zlet_e, zlet_e, show nI c + 1 = nI (c + 1) from nI_1 _, show nI p + 1 = nI (p + 1) from nI_1 _, f1, hl, hl2]
        exact ⟨le', rfl, fun z => by simp at z; omega⟩
      · obtain ⟨le', f1, f2⟩ := ih N (p + 1) (c + 1) (32 * le + Int32.toInt64 (nI b - 97 + 1)) (by omega) (by omega) (by omega)
        rw [if_neg (show ¬ (8 : Int32) ≤ nI c from nI_ge (a := c) (b := 8) (by omega) (by omega)), zlet_e, Option.bind_some]
        unfold fX7_goesOn_131
        simp only [zlet_e]
        rw [show nI c + 1 = nI (c + 1) from nI_1 _, show nI p + 1 = nI (p + 1) from nI_1 _, f1, hl, hl2]
        refine ⟨le', rfl, fun z v hv => ?_⟩
        show le' = lN ((zrL (zIn 97 122) C n m (p + 1)).foldl (fun v c => 32 * v + (c - 96)) (32 * v + (C p - 96)))
        refine f2 (by rw [hl2]; exact z) _ ?_
        rw [hv, hbC, show nI (C p) - 97 = nI (C p - 97) from pk_sub (a := C p) (b := 97) hc.1, show nI (C p - 97) + 1 = nI (C p - 97 + 1) from nI_1 _, nI_l (by omega), show (32 : Int64) * lN v = lN (32 * v) from lN_mul 32 _, lN_add, show C p - 97 + 1 = C p - 96 by omega]
/-- the model's sorts by the class's kinds -/
def zks (k : Nat) : Int32 := match k with | 0 => 1 | 1 => 2 | 2 => 3 | 3 => 4 | _ => 0
theorem zks_ne5 (k : Nat) : ¬ zks k = 5 := by unfold zks; split <;> decide
/-- a token at p: from s to e, of kind k (0 the end, 1 a name, 2 a whole, 3 ;, 4 bad), v its worth -/
def zTk (tp tq : Nat → Int32) (n p s e k v : Nat) : Prop :=
  (∀ kd sr va, ∃ va', fX4_takeToken (nI n) (nI p) kd sr va tp = some (nI e, nI k, nI s, va') ∧ (k = 2 → va' = nI v)) ∧
  (∀ so pl nu le, ¬ so = 5 → ∃ nu' le', fX7_goesOn (nI n) (nI p) so pl nu le tq = some (nI e, zks k, nI s, nu', le') ∧ (k = 2 → nu' = nI v) ∧ (k = 1 → le' = lN v)) ∧
  (k = 2 → v < 100000) ∧ (k = 1 → v < 2 ^ 40 ∧ ∀ j, j < 12 → fX4_isName j (nI e) (nI 1) (nI s) tp = some (zbi (decide (v = zpk j)))) ∧ p ≤ s ∧ s ≤ e ∧ e ≤ n ∧ k ≤ 4 ∧ (k = 3 → s < e)
theorem zvD_lt : ∀ (W : List Nat) (v : Nat), (∀ c ∈ W, 48 ≤ c ∧ c ≤ 57) → zvD v W < (v + 1) * 10 ^ W.length
  | [], v, _ => by show v < (v + 1) * 1; omega
  | c :: W, v, h => by
    have hc := h c List.mem_cons_self
    have := zvD_lt W (10 * v + c - 48) (fun d hd => h d (List.mem_cons_of_mem _ hd))
    show zvD (10 * v + c - 48) W < (v + 1) * 10 ^ (W.length + 1)
    refine Nat.lt_of_lt_of_le this ?_
    rw [Nat.pow_succ, Nat.mul_comm (10 ^ W.length) 10, ← Nat.mul_assoc]
    exact Nat.mul_le_mul_right _ (by omega)
theorem pX4_name_loop (h : zTx tp tq n C) {j s : Nat} {at' kd : Int32} (hj : j < 25) (h12 : j ≠ 12) (W : List Nat) (hW : ∀ i c, W[i]? = some c → c = C (s + i) ∧ s + i < n) (hA : ∀ c ∈ W, 97 ≤ c ∧ c ≤ 122) (hl : W.length = (zsc j).length) : ∀ (m N i : Nat), i + m = (zsc j).length → m < N → W.take i = (zsc j).take i → fX4_isName_28 j at' kd (nI s) tp N (nI i) = some (zbi (decide (W = zsc j))) := by
  obtain ⟨h1, h2⟩ := zsc_ok ⟨j, hj⟩
  simp at h1
  have hlen := zsc_len ⟨j, hj⟩ h12
  simp at hlen
  have hn := h.1
  intro m
  induction m with
  | zero =>
    intro N i e hN ht
    obtain ⟨N, rfl⟩ : ∃ k, N = k + 1 := ⟨N - 1, by omega⟩
    have : W = zsc j := by
      rw [List.take_of_length_le (by omega), List.take_of_length_le (by omega)] at ht
      exact ht
    rw [fX4_isName_28, hlen, Option.bind_some, if_pos (nI_le (by omega) (by omega)), decide_eq_true this]
    rfl
  | succ m ih =>
    intro N i e hN ht
    obtain ⟨N, rfl⟩ : ∃ k, N = k + 1 := ⟨N - 1, by omega⟩
    have hi : i < (zsc j).length := by omega
    have hiW : i < W.length := by omega
    have hat := zsc_at ⟨j, hj⟩ h12 ⟨i, by omega⟩ hi
    simp at hat
    have hg : (zsc j)[i]?.getD 0 = (zsc j)[i] := by rw [List.getElem?_eq_getElem hi]; rfl
    obtain ⟨w1, w2⟩ := hW i W[i] (List.getElem?_eq_getElem hiW)
    have hcA := hA W[i] (List.getElem_mem hiW)
    have hc2 := h2 (zsc j)[i] (List.getElem_mem hi)
    have htp : tp (s + i) = nI (C (s + i)) := (tx_eq h w2 (by omega)).mpr rfl
    rw [fX4_isName_28, hlen, Option.bind_some, if_neg (nI_ge hi (by omega)), zlet_e, nI_add, zald_n (by omega) (by omega), hat, hg, Option.bind_some, htp, ← w1]
    by_cases c : W[i] = (zsc j)[i]
    · rw [if_pos (by rw [c]), zlet_e, show nI i + 1 = nI (i + 1) from nI_1 _]
      refine ih N (i + 1) (by omega) (by omega) ?_
      rw [List.take_succ_eq_append_getElem hiW, List.take_succ_eq_append_getElem hi, ht, c]
    · rw [if_neg (fun z => c ((nI_eq (by omega) (by omega)).mp z)), decide_eq_false (fun z => c (by simp [z]))]
      rfl
/-- the same, by so many steps -/
def zTkN (tp tq : Nat → Int32) (n p s e k v m : Nat) : Prop :=
  (∀ N kd sr va, m < N → ∃ va', fX4_takeToken_0 (nI n) tp N (nI p) kd sr va = some (nI e, nI k, nI s, va') ∧ (k = 2 → va' = nI v)) ∧
  (∀ N so pl nu le, m < N → ∃ nu' le', fX7_goesOn_9 (nI n) tq N (nI p) so pl nu le = some (nI e, zks k, nI s, nu', le') ∧ (k = 2 → nu' = nI v) ∧ (k = 1 → le' = lN v)) ∧
  (k = 2 → v < 100000) ∧ (k = 1 → v < 2 ^ 40 ∧ ∀ j, j < 12 → fX4_isName j (nI e) (nI 1) (nI s) tp = some (zbi (decide (v = zpk j)))) ∧ p ≤ s ∧ s ≤ e ∧ e ≤ n ∧ k ≤ 4 ∧ (k = 3 → s < e)
theorem tok_at (h : zTx tp tq n C) : ∀ (m p : Nat), p + m = n → ∃ s e k v, zTkN tp tq n p s e k v m := by
  have hn := h.1
  intro m
  induction m with
  | zero =>
    intro p e
    have : p = n := by omega
    subst this
    refine ⟨p, p, 0, 0, fun N kd sr va hN => ⟨va, ?_, fun z => by omega⟩, fun N so pl nu le hN => ⟨nu, le, ?_, fun z => by omega, fun z => by omega⟩, fun z => by omega, fun z => by omega, Nat.le_refl _, Nat.le_refl _, Nat.le_refl _, by omega, fun z => by omega⟩
    · obtain ⟨N, rfl⟩ : ∃ k, N = k + 1 := ⟨N - 1, by omega⟩
      rw [fX4_takeToken_0, if_pos (Int32.le_refl _)]
      unfold fX4_takeToken_38
      rw [if_neg (fun z => Int32.lt_irrefl z)]
      rfl
    · obtain ⟨N, rfl⟩ : ∃ k, N = k + 1 := ⟨N - 1, by omega⟩
      rw [fX7_goesOn_9, pX7_byteAt_out (Nat.le_refl _) (by omega), Option.bind_some, if_neg (show ¬ (-1 : Int32) = 32 by decide), Option.bind_some, if_pos rfl]
      rfl
  | succ m ih =>
    intro p e
    have hp : p < n := by omega
    obtain ⟨b, hb, hby, q1, q2⟩ := tx_m h hp
    have hL := (pX7_isLD hb).1
    have hD := (pX7_isLD hb).2
    rw [tx_run h hb hp (by omega) q1 q2] at hL hD
    have hbeq : ∀ c, c < 128 → (nI b = nI c ↔ C p = c) := fun c hc => by
      rw [nI_eq (by omega) (by omega)]
      constructor
      · intro z; exact (q1 (by omega)).trans z
      · intro z; rw [q2 (by omega)]; exact z
    have hb1 : ¬ nI b = -1 := fun z => nI_pos (n := b) (by omega) (by rw [z]; decide)
    by_cases c32 : C p = 32
    · -- a blank
      obtain ⟨s, e', k, v, t1, t2, t3, t4, t5, t6, t7, t8, t9⟩ := ih (p + 1) (by omega)
      refine ⟨s, e', k, v, fun N kd sr va hN => ?_, fun N so pl nu le hN => ?_, t3, t4, by omega, t6, t7, t8, t9⟩
      · obtain ⟨N, rfl⟩ : ∃ k, N = k + 1 := ⟨N - 1, by omega⟩
        rw [fX4_takeToken_0, if_neg (nI_ge hp (by omega)), zald_n (by omega) (by omega), if_pos (show tp p = 32 from (tx_eq h hp (c := 32) (by omega)).mpr c32), zlet_e, show nI p + 1 = nI (p + 1) from nI_1 _]
        exact t1 N kd sr va (by omega)
      · obtain ⟨N, rfl⟩ : ∃ k, N = k + 1 := ⟨N - 1, by omega⟩
        rw [fX7_goesOn_9, hby, Option.bind_some, if_pos (show nI b = 32 from (hbeq 32 (by omega)).mpr c32), zlet_e, show nI p + 1 = nI (p + 1) from nI_1 _]
        exact t2 N so pl nu le (by omega)
    · have eX : ∀ N kd sr va, fX4_takeToken_0 (nI n) tp (N + 1) (nI p) kd sr va = fX4_takeToken_38 (nI n) tp (nI p) kd sr va := fun N kd sr va => by
        rw [fX4_takeToken_0, if_neg (nI_ge hp (by omega)), zald_n (by omega) (by omega), if_neg (show ¬ tp p = 32 from fun z => c32 ((tx_eq h hp (c := 32) (by omega)).mp z))]
      have n32b : ¬ nI b = 32 := fun z => c32 ((hbeq 32 (by omega)).mp z)
      by_cases c59 : C p = 59
      · -- a semicolon
        refine ⟨p, p + 1, 3, 0, fun N kd sr va hN => ⟨va, ?_, fun z => by omega⟩, fun N so pl nu le hN => ⟨nu, le, ?_, fun z => by omega, fun z => by omega⟩, fun z => by omega, fun z => by omega, by omega, by omega, by omega, by omega, fun z => by omega⟩
        · obtain ⟨N, rfl⟩ : ∃ k, N = k + 1 := ⟨N - 1, by omega⟩
          rw [eX]
          unfold fX4_takeToken_38
          rw [if_pos (nI_lt hp (by omega)), zald_n (by omega) (by omega), if_pos (show tp p = 59 from (tx_eq h hp (c := 59) (by omega)).mpr c59), zlet_e, show nI p + 1 = nI (p + 1) from nI_1 _]
          rfl
        · obtain ⟨N, rfl⟩ : ∃ k, N = k + 1 := ⟨N - 1, by omega⟩
          have hL0 : zIn 97 122 (C p) = false := decide_eq_false (by omega)
          have hD0 : zIn 48 57 (C p) = false := decide_eq_false (by omega)
          rw [hL0] at hL
          rw [hD0] at hD
          rw [fX7_goesOn_9, hby, Option.bind_some, if_neg n32b, Option.bind_some, if_neg hb1, hL, Option.bind_some, if_pos (show zbi false = 0 from rfl), hD, Option.bind_some, if_pos (show zbi false = 0 from rfl), if_pos (show nI b = 59 from (hbeq 59 (by omega)).mpr c59), zlet_e, show nI p + 1 = nI (p + 1) from nI_1 _]
          rfl
      · have n59 : ¬ tp p = 59 := fun z => c59 ((tx_eq h hp (c := 59) (by omega)).mp z)
        have n59b : ¬ nI b = 59 := fun z => c59 ((hbeq 59 (by omega)).mp z)
        cases hzL : zIn 97 122 (C p) with
        | true =>
          -- a name
          rw [hzL] at hL
          rcases tx_in h hp (lo := 97) (hi := 122) (by omega) (by omega) with ⟨-, k2, k3⟩ | ⟨k1, -⟩
          · have hW1 : ∀ i c, (zrL (zIn 97 122) C n (m + 1) p)[i]? = some c → c = C (p + i) ∧ p + i < n := fun i c hc => zrL_at hc
            have hW2 : ∀ c ∈ zrL (zIn 97 122) C n (m + 1) p, 97 ≤ c ∧ c ≤ 122 := fun c hc => of_decide_eq_true (zrL_all hc)
            have hlen := zrL_len (P := zIn 97 122) (C := C) (n := n) (m := m + 1) (p := p)
            generalize hWe : zrL (zIn 97 122) C n (m + 1) p = W at *
            refine ⟨p, p + W.length, (if 8 < W.length then 4 else 1), zvL W, fun N kd sr va hN => ?_, fun N so pl nu le hN => ?_, fun z => ?_, fun z => ?_, Nat.le_refl _, by omega, by omega, by split <;> omega, fun z => by split at z <;> omega⟩
            · obtain ⟨N, rfl⟩ : ∃ k, N = k + 1 := ⟨N - 1, by omega⟩
              obtain ⟨va', f1, f2⟩ := pX4_run h (lo := 97) (hi := 122) (by omega) (by omega) (m + 1) zF p 0 e (zF_gt (by omega))
              rw [hWe] at f1
              rw [eX]
              unfold fX4_takeToken_38 fX4_takeRun
              rw [if_pos (nI_lt hp (by omega)), zald_n (by omega) (by omega), if_neg n59, zald_n (by omega) (by omega), if_neg (show ¬ tp p < 97 from k2), zald_n (by omega) (by omega), if_neg (show ¬ (122 : Int32) < tp p from k3), show (97 : Int32) = nI 97 from rfl, show (122 : Int32) = nI 122 from rfl, f1, Option.bind_some, zlet_e, pk_sub (show p ≤ p + W.length by omega), show p + W.length - p = W.length by omega]
              by_cases c8 : 8 < W.length
              · rw [if_pos (show (8 : Int32) < nI W.length from nI_lt (a := 8) (b := W.length) c8 (by omega)), if_pos c8]
                exact ⟨_, rfl, fun z => by omega⟩
              · rw [if_neg (show ¬ (8 : Int32) < nI W.length from nI_nlt (a := 8) (b := W.length) (by omega) (by omega)), if_neg c8]
                exact ⟨_, rfl, fun z => by omega⟩
            · obtain ⟨N, rfl⟩ : ∃ k, N = k + 1 := ⟨N - 1, by omega⟩
              obtain ⟨le', f1, f2⟩ := pX7_let h (pl := nI p) (nu := nu) (m + 1) zF p 0 0 (by omega) e (zF_gt (by omega))
              rw [hWe, Nat.zero_add] at f1 f2
              rw [fX7_goesOn_9, hby, Option.bind_some, if_neg n32b, Option.bind_some, if_neg hb1, hL, Option.bind_some, if_neg (show ¬ zbi true = 0 by decide), show (0 : Int32) = nI 0 from rfl]
              rw [show nI 0 = (0 : Int32) from rfl] at f1
              rw [show nI 0 = (0 : Int32) from rfl, f1]
              by_cases c8 : 8 < W.length
              · rw [if_pos c8, if_pos c8]
                exact ⟨_, _, rfl, fun z => by omega, fun z => by omega⟩
              · rw [if_neg c8, if_neg c8]
                exact ⟨_, _, rfl, fun z => by omega, fun _ => f2 (by omega) 0 rfl⟩
            · split at z <;> omega
            · have c8 : ¬ 8 < W.length := fun q => by rw [if_pos q] at z; omega
              have hvl := zvL_lt W hW2
              have h3 : (32 : Nat) ^ W.length ≤ 32 ^ 8 := Nat.pow_le_pow_right (by decide) (by omega)
              have h4 : (32 : Nat) ^ 8 = 2 ^ 40 := by decide
              refine ⟨by omega, fun j hj => ?_⟩
              have hjl := zsc_len ⟨j, by omega⟩ (by simp; omega)
              simp at hjl
              have hj7 := (zsc_ok ⟨j, by omega⟩).1
              have hjA := (zsc_ok ⟨j, by omega⟩).2
              simp at hj7
              have hiff : (zvL W = zpk j) ↔ W = zsc j := ⟨fun z => zvL_inj W (zsc j) hW2 hjA z, fun z => by rw [z]; rfl⟩
              unfold fX4_isName
              rw [if_pos (show nI 1 = (1 : Int32) from rfl), zlet_e, pk_sub (show p ≤ p + W.length by omega), show p + W.length - p = W.length by omega, hjl, Option.bind_some]
              by_cases cl : W.length = (zsc j).length
              · rw [if_pos (by rw [cl])]
                have := pX4_name_loop h (at' := nI (p + W.length)) (kd := nI 1) (by omega) (by omega) W hW1 hW2 cl (zsc j).length zF 0 (by omega) (zF_gt (by omega)) rfl
                refine this.trans ?_
                rw [decide_eq_decide.mpr hiff]
              · rw [if_neg (fun z => cl ((nI_eq (by omega) (by omega)).mp z)), decide_eq_false (fun z => cl (by rw [hiff.mp z]))]
                rfl
          · rw [hzL] at k1; exact Bool.noConfusion k1
        | false =>
          rw [hzL] at hL
          have e159 : ∀ kd sr va, fX4_takeToken_38 (nI n) tp (nI p) kd sr va = fX4_takeToken_159 (nI n) tp (nI p) kd (nI p) va := fun kd sr va => by
            unfold fX4_takeToken_38
            rw [if_pos (nI_lt hp (by omega)), zald_n (by omega) (by omega), if_neg n59, zald_n (by omega) (by omega)]
            rcases tx_in h hp (lo := 97) (hi := 122) (by omega) (by omega) with ⟨k1, -, -⟩ | ⟨-, k2⟩
            · rw [hzL] at k1; exact Bool.noConfusion k1
            · by_cases c : tp p < 97
              · rw [if_pos c]
              · rw [if_neg c, zald_n (by omega) (by omega), if_pos (show (122 : Int32) < tp p from k2.resolve_left c)]
          cases hzD : zIn 48 57 (C p) with
          | true =>
            -- a whole
            rw [hzD] at hD
            rcases tx_in h hp (lo := 48) (hi := 57) (by omega) (by omega) with ⟨-, k2, k3⟩ | ⟨k1, -⟩
            · have hW2 : ∀ c ∈ zrL (zIn 48 57) C n (m + 1) p, 48 ≤ c ∧ c ≤ 57 := fun c hc => of_decide_eq_true (zrL_all hc)
              have hlen := zrL_len (P := zIn 48 57) (C := C) (n := n) (m := m + 1) (p := p)
              generalize hWe : zrL (zIn 48 57) C n (m + 1) p = W at *
              refine ⟨p, p + W.length, (if 5 < W.length then 4 else 2), zvD 0 W, fun N kd sr va hN => ?_, fun N so pl nu le hN => ?_, fun z => ?_, fun z => ?_, Nat.le_refl _, by omega, by omega, by split <;> omega, fun z => by split at z <;> omega⟩
              · obtain ⟨N, rfl⟩ : ∃ k, N = k + 1 := ⟨N - 1, by omega⟩
                obtain ⟨va', f1, f2⟩ := pX4_run h (lo := 48) (hi := 57) (by omega) (by omega) (m + 1) zF p 0 e (zF_gt (by omega))
                rw [hWe] at f1 f2
                rw [eX, e159]
                unfold fX4_takeToken_159 fX4_takeRun
                rw [zald_n (by omega) (by omega), if_neg (show ¬ tp p < 48 from k2), zald_n (by omega) (by omega), if_neg (show ¬ (57 : Int32) < tp p from k3), show (48 : Int32) = nI 48 from rfl, show (57 : Int32) = nI 57 from rfl, f1, Option.bind_some, zlet_e, pk_sub (show p ≤ p + W.length by omega), show p + W.length - p = W.length by omega]
                by_cases c5 : 5 < W.length
                · rw [if_pos (show (5 : Int32) < nI W.length from nI_lt (a := 5) (b := W.length) c5 (by omega)), if_pos c5]
                  exact ⟨_, rfl, fun z => by omega⟩
                · rw [if_neg (show ¬ (5 : Int32) < nI W.length from nI_nlt (a := 5) (b := W.length) (by omega) (by omega)), if_neg c5]
                  exact ⟨_, rfl, fun _ => f2 rfl 0 rfl⟩
              · obtain ⟨N, rfl⟩ : ∃ k, N = k + 1 := ⟨N - 1, by omega⟩
                obtain ⟨nu', f1, f2⟩ := pX7_dig h (pl := nI p) (le := le) (m + 1) zF p 0 0 (by omega) e (zF_gt (by omega))
                rw [hWe, Nat.zero_add] at f1 f2
                rw [show nI 0 = (0 : Int32) from rfl] at f1
                rw [fX7_goesOn_9, hby, Option.bind_some, if_neg n32b, Option.bind_some, if_neg hb1, hL, Option.bind_some, if_pos (show zbi false = 0 from rfl), hD, Option.bind_some, if_neg (show ¬ zbi true = 0 by decide), f1]
                by_cases c5 : 5 < W.length
                · rw [if_pos c5, if_pos c5]
                  exact ⟨_, _, rfl, fun z => by omega, fun z => by omega⟩
                · rw [if_neg c5, if_neg c5]
                  exact ⟨_, _, rfl, fun _ => f2 (by omega) 0 rfl, fun z => by omega⟩
              · have c5 : ¬ 5 < W.length := fun q => by rw [if_pos q] at z; omega
                have := zvD_lt W 0 hW2
                have h3 : (10 : Nat) ^ W.length ≤ 10 ^ 5 := Nat.pow_le_pow_right (by decide) (by omega)
                omega
              · split at z <;> omega
            · rw [hzD] at k1; exact Bool.noConfusion k1
          | false =>
            -- a bad sign
            rw [hzD] at hD
            refine ⟨p, p, 4, 0, fun N kd sr va hN => ⟨va, ?_, fun z => by omega⟩, fun N so pl nu le hN => ⟨nu, le, ?_, fun z => by omega, fun z => by omega⟩, fun z => by omega, fun z => by omega, by omega, by omega, by omega, by omega, fun z => by omega⟩
            · obtain ⟨N, rfl⟩ : ∃ k, N = k + 1 := ⟨N - 1, by omega⟩
              rw [eX, e159]
              unfold fX4_takeToken_159
              rw [zald_n (by omega) (by omega)]
              rcases tx_in h hp (lo := 48) (hi := 57) (by omega) (by omega) with ⟨k1, -, -⟩ | ⟨-, k2⟩
              · rw [hzD] at k1; exact Bool.noConfusion k1
              · by_cases c : tp p < 48
                · rw [if_pos c]; rfl
                · rw [if_neg c, zald_n (by omega) (by omega), if_pos (show (57 : Int32) < tp p from k2.resolve_left c)]; rfl
            · obtain ⟨N, rfl⟩ : ∃ k, N = k + 1 := ⟨N - 1, by omega⟩
              rw [fX7_goesOn_9, hby, Option.bind_some, if_neg n32b, Option.bind_some, if_neg hb1, hL, Option.bind_some, if_pos (show zbi false = 0 from rfl), hD, Option.bind_some, if_pos (show zbi false = 0 from rfl), if_neg n59b]
              rfl
theorem tok (h : zTx tp tq n C) {p : Nat} (hp : p ≤ n) : ∃ s e k v, zTk tp tq n p s e k v := by
  have hn := h.1
  obtain ⟨s, e, k, v, t1, t2, t3, t4, t5, t6, t7, t8, t9⟩ := tok_at h (n - p) p (by omega)
  refine ⟨s, e, k, v, fun kd sr va => t1 zF kd sr va (zF_gt (by omega)), fun so pl nu le h5 => ?_, t3, t4, t5, t6, t7, t8, t9⟩
  unfold fX7_goesOn
  rw [if_neg h5]
  exact t2 zF so pl nu le (zF_gt (by omega))
end TOK2
