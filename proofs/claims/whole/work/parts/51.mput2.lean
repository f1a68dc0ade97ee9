/-! ===== the model's write, whole ===== -/
section MPUT2
variable {st wy : Nat} {wg : Bool} {B : Nat} {a : zA} {x : Nat → Int32}
theorem zRX_Put {sp w : Nat} (hs : sp < 256) (hX : zRX a x) : zRX (aPut a sp w) (upd (upd x (256 + 8 * (sp / 8) + sp % 8) (nI w)) (576 + sp / 8) 1) := by
  refine ⟨fun y hy => ?_, fun j hj => ?_, ?_⟩
  · obtain ⟨f1, f2, f3⟩ := hX.1 y hy
    refine ⟨by rw [pk_un (by omega), pk_un (by omega)]; exact f1, ?_, fun hu => ⟨by rw [pk_un (by omega), pk_un (by omega)]; exact (f3 hu).1, fun i hi => ?_⟩⟩
    · show _ = nI (nup (aD a) (sp / 8) 1 y)
      unfold nup
      by_cases c : y = sp / 8
      · rw [if_pos c, c, pk_us]; rfl
      · rw [if_neg c, pk_un (by omega), pk_un (by omega)]; exact f2
    · show _ = wup (aW a) sp (nI w) (y * 8 + i)
      unfold wup
      rw [pk_un (by omega)]
      by_cases c : y * 8 + i = sp
      · rw [if_pos c, show 256 + 8 * y + i = 256 + 8 * (sp / 8) + sp % 8 by omega, pk_us]
      · rw [if_neg c, pk_un (by omega)]; exact (f3 hu).2 i hi
  · rw [pk_un (by omega), pk_un (by omega)]; exact hX.2.1 j hj
  · rw [pk_un (by omega), pk_un (by omega)]; exact hX.2.2
theorem aPut_T {k : zK} {sp w : Nat} (hT : zIT k a) : zIT k (aPut a sp w) := fun s hs => hT s hs
end MPUT2
