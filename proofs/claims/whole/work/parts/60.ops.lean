theorem op_addTag {X M : St} (h : Rel X M) : ∃ R r M1, fX3_addTag X = some R ∧ fX4_addTag M = some (r, M1) ∧ AgW [ISE] R r M1 := by
  sorry
theorem op_putUnder {X M : St} (a1 a2 : Int32) (h : Rel X M) : ∃ R r M1, fX3_putUnder X a1 a2 = some R ∧ fX4_putUnder M a1 a2 = some (r, M1) ∧ AgW [IOB, IAE, ISE] R r M1 := by
  sorry
theorem op_freeTag {X M : St} (a1 : Int32) (h : Rel X M) : ∃ R r M1, fX3_freeTag X a1 = some R ∧ fX4_freeTag M a1 = some (r, M1) ∧ AgW [IOB, ISE] R r M1 := by
  sorry
theorem op_addDream {X M : St} (a1 a2 : Int32) (h : Rel X M) : ∃ R r M1, fX3_addDream X a1 a2 = some R ∧ fX4_addDream M a1 a2 = some (r, M1) ∧ AgW [IOB, IAE, ISE] R r M1 := by
  sorry
theorem op_tagDream {X M : St} (a1 a2 : Int32) (h : Rel X M) : ∃ R r M1, fX3_tagDream X a1 a2 = some R ∧ fX4_tagDream M a1 a2 = some (r, M1) ∧ AgW [IOB, ISE] R r M1 := by
  sorry
theorem op_untagDream {X M : St} (a1 a2 : Int32) (h : Rel X M) : ∃ R r M1, fX3_untagDream X a1 a2 = some R ∧ fX4_untagDream M a1 a2 = some (r, M1) ∧ AgW [IOB, ISE] R r M1 := by
  sorry
theorem op_recall {X M : St} (a1 a2 : Int32) (h : Rel X M) : ∃ R r M1, fX3_recall X a1 a2 = some R ∧ fX4_recall M a1 a2 = some (r, M1) ∧ AgW [IOB, IAE] R r M1 := by
  sorry
theorem op_passNights {X M : St} (a1 : Int32) (h : Rel X M) : ∃ R r M1, fX3_passNights X a1 = some R ∧ fX4_passNights M a1 = some (r, M1) ∧ AgW [IAE] R r M1 := by
  sorry
theorem op_addTagTerm {X M : St} (a1 : Int32) (h : Rel X M) : ∃ R r M1, fX3_addTagTerm X a1 = some R ∧ fX4_addTagTerm M a1 = some (r, M1) ∧ AgW [IOB, ISE] R r M1 := by
  sorry
theorem op_addBothTerm {X M : St} (a1 a2 : Int32) (h : Rel X M) : ∃ R r M1, fX3_addBothTerm X a1 a2 = some R ∧ fX4_addBothTerm M a1 a2 = some (r, M1) ∧ AgW [IOB, ISE] R r M1 := by
  sorry
theorem op_addEitherTerm {X M : St} (a1 a2 : Int32) (h : Rel X M) : ∃ R r M1, fX3_addEitherTerm X a1 a2 = some R ∧ fX4_addEitherTerm M a1 a2 = some (r, M1) ∧ AgW [IOB, ISE] R r M1 := by
  sorry
theorem op_addWithoutTerm {X M : St} (a1 : Int32) (h : Rel X M) : ∃ R r M1, fX3_addWithoutTerm X a1 = some R ∧ fX4_addWithoutTerm M a1 = some (r, M1) ∧ AgW [IOB, ISE] R r M1 := by
  sorry
theorem op_clearTerms {X M : St} (h : Rel X M) : ∃ r X1 M1, fX3_clearTerms X = some (r, X1) ∧ fX4_clearTerms M = some (r, M1) ∧ Rel X1 M1 := by
  sorry
theorem op_hasParent {X M : St} (a1 : Int32) (h : Rel X M) : ∃ R r M1, fX3_hasParent X a1 = some R ∧ fX4_hasParent M a1 = some (r, M1) ∧ AgR [IOB] X R r M1 := by
  sorry
theorem op_parentOf {X M : St} (a1 : Int32) (h : Rel X M) : ∃ R r M1, fX3_parentOf X a1 = some R ∧ fX4_parentOf M a1 = some (r, M1) ∧ AgR [IOB, ISE] X R r M1 := by
  sorry
theorem op_tagsAbove {X M : St} (a1 : Int32) (h : Rel X M) : ∃ R r M1, fX3_tagsAbove X a1 = some R ∧ fX4_tagsAbove M a1 = some (r, M1) ∧ AgR [IOB] X R r M1 := by
  sorry
theorem op_tagsBelow {X M : St} (a1 : Int32) (h : Rel X M) : ∃ R r M1, fX3_tagsBelow X a1 = some R ∧ fX4_tagsBelow M a1 = some (r, M1) ∧ AgR [IOB] X R r M1 := by
  sorry
theorem op_isBelow {X M : St} (a1 a2 : Int32) (h : Rel X M) : ∃ R r M1, fX3_isBelow X a1 a2 = some R ∧ fX4_isBelow M a1 a2 = some (r, M1) ∧ AgR [IOB] X R r M1 := by
  sorry
theorem op_nearestAbove {X M : St} (a1 a2 : Int32) (h : Rel X M) : ∃ R r M1, fX3_nearestAbove X a1 a2 = some R ∧ fX4_nearestAbove M a1 a2 = some (r, M1) ∧ AgR [IOB] X R r M1 := by
  sorry
theorem op_dreamsWith {X M : St} (a1 : Int32) (h : Rel X M) : ∃ R r M1, fX3_dreamsWith X a1 = some R ∧ fX4_dreamsWith M a1 = some (r, M1) ∧ AgR [IOB] X R r M1 := by
  sorry
theorem op_hasOwnTag {X M : St} (a1 a2 : Int32) (h : Rel X M) : ∃ R r M1, fX3_hasOwnTag X a1 a2 = some R ∧ fX4_hasOwnTag M a1 a2 = some (r, M1) ∧ AgR [IOB] X R r M1 := by
  sorry
theorem op_hasTag {X M : St} (a1 a2 : Int32) (h : Rel X M) : ∃ R r M1, fX3_hasTag X a1 a2 = some R ∧ fX4_hasTag M a1 a2 = some (r, M1) ∧ AgR [IOB] X R r M1 := by
  sorry
theorem op_tagsOf {X M : St} (a1 : Int32) (h : Rel X M) : ∃ R r M1, fX3_tagsOf X a1 = some R ∧ fX4_tagsOf M a1 = some (r, M1) ∧ AgR [IOB] X R r M1 := by
  sorry
theorem op_vividnessOf {X M : St} (a1 : Int32) (h : Rel X M) : ∃ R r M1, fX3_vividnessOf X a1 = some R ∧ fX4_vividnessOf M a1 = some (r, M1) ∧ AgR [IOB] X R r M1 := by
  sorry
theorem op_nightOf {X M : St} (a1 : Int32) (h : Rel X M) : ∃ R r M1, fX3_nightOf X a1 = some R ∧ fX4_nightOf M a1 = some (r, M1) ∧ AgR [IOB] X R r M1 := by
  sorry
theorem op_matches {X M : St} (a1 a2 : Int32) (h : Rel X M) : ∃ R r M1, fX3_matches X a1 a2 = some R ∧ fX4_matches M a1 a2 = some (r, M1) ∧ AgR [IOB] X R r M1 := by
  sorry
theorem op_matchesOf {X M : St} (a1 : Int32) (h : Rel X M) : ∃ R r M1, fX3_matchesOf X a1 = some R ∧ fX4_matchesOf M a1 = some (r, M1) ∧ AgR [IOB] X R r M1 := by
  sorry
theorem op_mostVivid {X M : St} (a1 : Int32) (h : Rel X M) : ∃ R r M1, fX3_mostVivid X a1 = some R ∧ fX4_mostVivid M a1 = some (r, M1) ∧ AgR [IOB] X R r M1 := by
  sorry
theorem op_commonTags {X M : St} (a1 : Int32) (h : Rel X M) : ∃ R r M1, fX3_commonTags X a1 = some R ∧ fX4_commonTags M a1 = some (r, M1) ∧ AgR [IOB] X R r M1 := by
  sorry
theorem op_matchSame {X M : St} (a1 a2 : Int32) (h : Rel X M) : ∃ R r M1, fX3_matchSame X a1 a2 = some R ∧ fX4_matchSame M a1 a2 = some (r, M1) ∧ AgR [IOB] X R r M1 := by
  sorry
theorem op_coverSize {X M : St} (a1 : Int32) (h : Rel X M) : ∃ R r M1, fX3_coverSize X a1 = some R ∧ fX4_coverSize M a1 = some (r, M1) ∧ AgW [IOB] R r M1 := by
  sorry
theorem op_coverTag {X M : St} (a1 a2 : Int32) (h : Rel X M) : ∃ R r M1, fX3_coverTag X a1 a2 = some R ∧ fX4_coverTag M a1 a2 = some (r, M1) ∧ AgW [IOB] R r M1 := by
  sorry
theorem op_tags {X M : St} (h : Rel X M) : ∃ r M1, fX3_tags X = some r ∧ fX4_tags M = some (r, M1) ∧ Rel X M1 := by
  sorry
theorem op_dreams {X M : St} (h : Rel X M) : ∃ r M1, fX3_dreams X = some r ∧ fX4_dreams M = some (r, M1) ∧ Rel X M1 := by
  sorry
theorem op_terms {X M : St} (h : Rel X M) : ∃ r M1, fX3_terms X = some r ∧ fX4_terms M = some (r, M1) ∧ Rel X M1 := by
  sorry
theorem op_nights {X M : St} (h : Rel X M) : ∃ r M1, fX3_nights X = some r ∧ fX4_nights M = some (r, M1) ∧ Rel X M1 := by
  sorry
theorem op_fadedDreams {X M : St} (h : Rel X M) : ∃ r M1, fX3_fadedDreams X = some r ∧ fX4_fadedDreams M = some (r, M1) ∧ Rel X M1 := by
  sorry
theorem op_fadedAfter {X M : St} (a1 : Int32) (h : Rel X M) : ∃ R r M1, fX3_fadedAfter X a1 = some R ∧ fX4_fadedAfter M a1 = some (r, M1) ∧ AgR [IAE] X R r M1 := by
  sorry
theorem op_matchesIfUnder {X M : St} (a1 a2 a3 : Int32) (h : Rel X M) : ∃ R r M1, fX3_matchesIfUnder X a1 a2 a3 = some R ∧ fX4_matchesIfUnder M a1 a2 a3 = some (r, M1) ∧ AgW [IOB, IAE, ISE] R r M1 := by
  sorry
theorem op_bestParent {X M : St} (a1 a2 : Int32) (h : Rel X M) : ∃ R r M1, fX3_bestParent X a1 a2 = some R ∧ fX4_bestParent M a1 a2 = some (r, M1) ∧ AgW [IOB] R r M1 := by
  sorry
theorem op_meanVividness {X M : St} (h : Rel X M) : ∃ r M1, fX3_meanVividness X = some r ∧ fX4_meanVividness M = some (r, M1) ∧ Rel X M1 ∧ FP.dcmp r r = some .eq := by
  sorry
theorem op_digest {X M : St} (h : Rel X M) : ∃ r X1 M1, fX3_digest X = some (r, X1) ∧ fX4_digest M = some (r, M1) ∧ Rel X1 M1 := by
  sorry
