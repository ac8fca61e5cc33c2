theorem q_35 : Cond.fieldLink RX0 13 "NineDebts$Life" "debts" "[[I" ∈ lwG := tw 35 (by decide +kernel) (by decide +kernel)
theorem in_0 : ∀ w ∈ u_ws RX0 TX0 9, w ∈ lwG := by decide +kernel
theorem q_46 : Cond.fieldLink RX0 24 "NineDebts$Life" "week" "I" ∈ lwG := tw 46 (by decide +kernel) (by decide +kernel)
theorem q_42 : Cond.fieldLink RX0 20 "NineDebts$Life" "count" "I" ∈ lwG := tw 42 (by decide +kernel) (by decide +kernel)
