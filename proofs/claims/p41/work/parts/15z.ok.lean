theorem xapp {α : Type} {P : α → Prop} {a b : List α} (h : ∀ x ∈ a, P x) (k : ∀ x ∈ b, P x) : ∀ x ∈ a ++ b, P x := fun x hx => (List.mem_append.mp hx).elim (h x) (k x)
set_option maxRecDepth 100000 in
theorem qL_lines_eq : tL_lines = qL_lines_0 ++ (qL_lines_1 ++ (qL_lines_2 ++ (qL_lines_3 ++ (qL_lines_4 ++ (qL_lines_5 ++ (qL_lines_6)))))) := rfl
theorem okL_lines_1 : ∀ e ∈ tL_lines, decode cL_lines e.1 = .ok (e.2.1, e.2.2.1) := by rw [qL_lines_eq]; exact xapp qL_lines_0_ok (xapp qL_lines_1_ok (xapp qL_lines_2_ok (xapp qL_lines_3_ok (xapp qL_lines_4_ok (xapp qL_lines_5_ok (qL_lines_6_ok))))))
theorem okL_lines : xEok eL_lines := ⟨okL_lines_1, by decide +kernel, by decide +kernel, ceL_ok, rfl, by decide +kernel⟩
set_option maxRecDepth 100000 in
theorem qL_follows_eq : tL_follows = qL_follows_0 ++ (qL_follows_1 ++ (qL_follows_2 ++ (qL_follows_3))) := rfl
theorem okL_follows_1 : ∀ e ∈ tL_follows, decode cL_follows e.1 = .ok (e.2.1, e.2.2.1) := by rw [qL_follows_eq]; exact xapp qL_follows_0_ok (xapp qL_follows_1_ok (xapp qL_follows_2_ok (qL_follows_3_ok)))
theorem okL_follows : xEok eL_follows := ⟨okL_follows_1, by decide +kernel, by decide +kernel, ceL_ok, rfl, by decide +kernel⟩
set_option maxRecDepth 100000 in
theorem qL_trim_eq : tL_trim = qL_trim_0 ++ (qL_trim_1 ++ (qL_trim_2 ++ (qL_trim_3 ++ (qL_trim_4 ++ (qL_trim_5))))) := rfl
theorem okL_trim_1 : ∀ e ∈ tL_trim, decode cL_trim e.1 = .ok (e.2.1, e.2.2.1) := by rw [qL_trim_eq]; exact xapp qL_trim_0_ok (xapp qL_trim_1_ok (xapp qL_trim_2_ok (xapp qL_trim_3_ok (xapp qL_trim_4_ok (qL_trim_5_ok)))))
theorem okL_trim : xEok eL_trim := ⟨okL_trim_1, by decide +kernel, by decide +kernel, ceL_ok, rfl, by decide +kernel⟩
set_option maxRecDepth 100000 in
theorem qL_rule_eq : tL_rule = qL_rule_0 ++ (qL_rule_1 ++ (qL_rule_2 ++ (qL_rule_3 ++ (qL_rule_4 ++ (qL_rule_5 ++ (qL_rule_6 ++ (qL_rule_7))))))) := rfl
theorem okL_rule_1 : ∀ e ∈ tL_rule, decode cL_rule e.1 = .ok (e.2.1, e.2.2.1) := by rw [qL_rule_eq]; exact xapp qL_rule_0_ok (xapp qL_rule_1_ok (xapp qL_rule_2_ok (xapp qL_rule_3_ok (xapp qL_rule_4_ok (xapp qL_rule_5_ok (xapp qL_rule_6_ok (qL_rule_7_ok)))))))
theorem okL_rule : xEok eL_rule := ⟨okL_rule_1, by decide +kernel, by decide +kernel, ceL_ok, rfl, by decide +kernel⟩
set_option maxRecDepth 100000 in
theorem qL_law_eq : tL_law = qL_law_0 ++ (qL_law_1 ++ (qL_law_2 ++ (qL_law_3 ++ (qL_law_4 ++ (qL_law_5 ++ (qL_law_6 ++ (qL_law_7 ++ (qL_law_8 ++ (qL_law_9 ++ (qL_law_10 ++ (qL_law_11 ++ (qL_law_12 ++ (qL_law_13 ++ (qL_law_14 ++ (qL_law_15 ++ (qL_law_16 ++ (qL_law_17 ++ (qL_law_18 ++ (qL_law_19))))))))))))))))))) := rfl
theorem okL_law_1 : ∀ e ∈ tL_law, decode cL_law e.1 = .ok (e.2.1, e.2.2.1) := by rw [qL_law_eq]; exact xapp qL_law_0_ok (xapp qL_law_1_ok (xapp qL_law_2_ok (xapp qL_law_3_ok (xapp qL_law_4_ok (xapp qL_law_5_ok (xapp qL_law_6_ok (xapp qL_law_7_ok (xapp qL_law_8_ok (xapp qL_law_9_ok (xapp qL_law_10_ok (xapp qL_law_11_ok (xapp qL_law_12_ok (xapp qL_law_13_ok (xapp qL_law_14_ok (xapp qL_law_15_ok (xapp qL_law_16_ok (xapp qL_law_17_ok (xapp qL_law_18_ok (qL_law_19_ok)))))))))))))))))))
theorem okL_law : xEok eL_law := ⟨okL_law_1, by decide +kernel, by decide +kernel, ceL_ok, rfl, by decide +kernel⟩
