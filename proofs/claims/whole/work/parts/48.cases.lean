/-! ===== the cases that are not proved yet ===== -/

