theorem cds_at {M : Nat} {t : List (List EN)} (h : l2 cds M = some t) : chkT (chkE M) t = true := sorry
