/-! TEXT: faultPlace, faultKind, faultItem (TF: both sides hold the same fault; load keeps it so: owed) -/
section S
variable {t x m : Pk}
def TF (x m : Pk) : Prop := x.2.1 4 = m.2.1 7 ∧ x.2.1 5 = m.2.1 8 ∧ x.2.1 6 = m.2.1 9
theorem S_faultPlace (T : TF x m) : Two (fX9_faultPlace t x) (fX10_faultPlace m) := ⟨m.2.1 7, by unfold fX9_faultPlace fX7_placeOfFault; rw [qb1_s, T.1], rfl⟩
theorem S_faultKind (T : TF x m) : Two (fX9_faultKind t x) (fX10_faultKind m) := ⟨m.2.1 8, by unfold fX9_faultKind fX7_kindOfFault; rw [qb1_s, T.2.1], rfl⟩
theorem S_faultItem (T : TF x m) : Two (fX9_faultItem t x) (fX10_faultItem m) := ⟨m.2.1 9, by unfold fX9_faultItem fX7_itemOfFault; rw [qb1_s, T.2.2], rfl⟩
theorem TF.edit {x' m' : Pk} (T : TF x m) (h : xSame x x') (g : tmSame m m') : TF x' m' := ⟨by rw [h.2.1 4 (by decide), g.2.1 7 (by decide)]; exact T.1, by rw [h.2.1 5 (by decide), g.2.1 8 (by decide)]; exact T.2.1, by rw [h.2.1 6 (by decide), g.2.1 9 (by decide)]; exact T.2.2⟩
end S
