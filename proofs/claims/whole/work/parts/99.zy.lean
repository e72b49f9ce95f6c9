/-! all calls; the start -/
theorem Inv_0 : Inv Mo h0 := by
  refine ⟨⟨⟨⟨⟨fun k hk => ?_, fun k hk => ?_, fun s hs' => Or.inl rfl, fun k hk _ => rfl⟩, fun k hk => rfl, fun s hs' => rfl⟩, fun k hk => ?_, fun k hk => ?_, fun k hk => ?_⟩, ⟨rfl, ⟨by decide, by decide⟩, rfl, rfl, Or.inl rfl, rfl⟩, C3_0 rfl rfl, rfl, rfl, rfl⟩, fun q => absurd q (by decide)⟩
  · show (0 : Int) ≤ 0 ∧ (0 : Int) < 256; decide
  · show (0 : Int) ≤ 0 ∧ (0 : Int) < 256; decide
  · show (-128 : Int) ≤ 0 ∧ (0 : Int) < 128; decide
  · show (-128 : Int) ≤ 0 ∧ (0 : Int) < 128; decide
  · rfl
theorem ops_all (G : GG) (h : AH) (hI : Inv Mo h) : OPS G (Inv Mo) h :=
  ⟨fun _ _ a b => T_format hI a b, fun _ _ a b => T_octet hI a b, fun _ _ _ a b c => T_spoil hI a b c, fun _ a => T_fail Mo_C hI a, T_mount hI, fun _ _ => T_fault hI, T_unmount hI, T_mend hI, fun _ _ _ _ => T_letters Mo_C hI, T_clear Mo_C hI, fun _ _ => T_clock Mo_C hI, fun _ a => T_look hI a, fun _ _ a b => T_list hI a b, fun _ _ a _ => T_make hI a (by split; exact Or.inl rfl; exact Or.inr rfl), fun _ _ _ _ a b c _ => T_write hI a b c, fun _ _ a b => T_cut hI a b, fun _ a => T_drop hI a, fun _ _ a b => T_move hI a b, fun _ _ a _ => T_bar hI a, fun _ _ a b => T_read hI a b, fun _ _ a b => T_told hI a b, fun _ _ a b => T_letter hI a b, fun _ _ a b => T_cluster hI a b, fun _ a => T_count Mo_Mb hI a⟩
