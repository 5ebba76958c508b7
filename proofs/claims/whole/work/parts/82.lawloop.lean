/-! ===== the law's loop ===== -/
