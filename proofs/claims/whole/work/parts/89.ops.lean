/-! thirty-four of the thirty-six -/
section Z
theorem z_range : Op_range Rel := fun _ _ h p => ⟨200000, 200000, o_range (by omega) h p⟩
theorem z_meter : Op_meter Rel := fun _ _ h p => ⟨200000, 200000, o_meter (by omega) h p⟩
theorem z_miss : Op_miss Rel := fun _ _ h p q w => ⟨200000, 200000, o_miss (by omega) h p q w⟩
theorem z_worth : Op_worth Rel := fun _ _ h p q w => ⟨200000, 200000, o_worth (by omega) h p q w⟩
theorem z_partOf : Op_partOf Rel := fun _ _ h p q w => ⟨200000, 200000, o_partOf h p q w⟩
theorem z_kind : Op_kind Rel := fun _ _ h p q => ⟨200000, 200000, o_kind h p q⟩
theorem z_read : Op_read Rel := fun _ _ h p q => ⟨200000, 200000, o_read (by omega) h p q⟩
theorem z_trail : Op_trail Rel := fun _ _ h p q => ⟨200000, 200000, o_trail (by omega) h p q⟩
theorem z_rest : Op_rest Rel := fun _ _ h p q => ⟨200000, 200000, o_rest (by omega) h p q⟩
theorem z_spans : Op_spans Rel := fun _ _ h p => ⟨200000, 200000, o_spans (by omega) h p⟩
theorem z_span : Op_span Rel := fun _ _ h p q w => ⟨200000, 200000, o_span (by omega) h p q w⟩
theorem z_codes : Op_codes Rel := fun _ _ h p => ⟨200000, 200000, o_codes (by omega) h p⟩
theorem z_lacks : Op_lacks Rel := fun _ _ h p => ⟨200000, 200000, o_lacks (by omega) h p⟩
theorem z_back : Op_back Rel := fun _ _ h p => ⟨200000, 200000, o_back (by omega) h p⟩
theorem z_widest : Op_widest Rel := fun _ _ h p => ⟨200000, 200000, o_widest (by omega) h p⟩
theorem z_edge : Op_edge Rel := fun _ _ h p q => ⟨200000, 200000, o_edge (by omega) h p q⟩
theorem z_line : Op_line Rel := fun _ _ h p q => ⟨200000, 200000, o_line (by omega) h p q⟩
theorem z_covered : Op_covered Rel := fun _ _ h p => ⟨200000, 200000, o_covered (by omega) h p⟩
theorem z_tail : Op_tail Rel := fun _ _ h p => ⟨200000, 200000, o_tail (by omega) h p⟩
theorem z_mend : Op_mend Rel := fun _ _ h p => ⟨200000, 200000, o_mend (by omega) h p⟩
theorem z_count : Op_count Rel := fun _ _ h p q w x y => ⟨200000, 200000, o_count (by omega) h p q w x y⟩
theorem z_noise : Op_noise Rel := fun _ _ h p q => ⟨200000, 200000, o_noise h p q⟩
theorem z_still : Op_still Rel := fun _ _ h => ⟨200000, 200000, o_still h⟩
theorem z_mean : Op_mean Rel := fun _ _ h p q w hp => ⟨200000, 200000, o_mean (by omega) h p q w hp⟩
theorem z_fault : Op_fault Rel := fun _ _ h p q w => ⟨200000, 200000, o_fault h p q w⟩
theorem z_clear : Op_clear Rel := fun _ _ h => ⟨200000, 200000, o_clear h⟩
theorem z_shown : Op_shown Rel := fun _ _ h p => ⟨200000, 200000, o_shown (by omega) h p⟩
theorem z_shows : Op_shows Rel := fun _ _ h => ⟨200000, 200000, o_shows (by omega) h⟩
theorem z_showing : Op_showing Rel := fun _ _ h p => ⟨200000, 200000, o_showing (by omega) h p⟩
theorem z_alike : Op_alike Rel := fun _ _ h => ⟨200000, 200000, o_alike (by omega) h⟩
theorem z_beyond : Op_beyond Rel := fun _ _ h p => ⟨200000, 200000, o_beyond (by omega) h p⟩
theorem z_joined : Op_joined Rel := fun _ _ h p q w x => ⟨200000, 200000, o_joined (by omega) h p q w x⟩
theorem z_size : Op_size Rel := fun _ _ h p => ⟨200000, 200000, o_size h p⟩
theorem z_trouble : Op_trouble Rel := fun _ _ h => ⟨200000, 200000, o_trouble h⟩
end Z
