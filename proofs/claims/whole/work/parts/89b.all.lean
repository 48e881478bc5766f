/-! the other two, and all of them together -/
section Z
theorem z_part : Op_part Rel := fun _ _ h p q w => ⟨200000, 200000, o_part (by omega) h p q w⟩
theorem z_undo : Op_undo Rel := fun _ _ h => ⟨200000, 200000, o_undo (by omega) h⟩
theorem ops_ok : OpsOk Rel := ⟨z_range, z_meter, z_part, z_miss, z_worth, z_partOf, z_kind, z_read, z_trail, z_rest, z_spans, z_span, z_codes, z_lacks, z_back, z_widest, z_edge, z_line, z_covered, z_tail, z_mend, z_count, z_noise, z_still, z_mean, z_fault, z_clear, z_shown, z_shows, z_showing, z_alike, z_beyond, z_joined, z_undo, z_size, z_trouble⟩
end Z
