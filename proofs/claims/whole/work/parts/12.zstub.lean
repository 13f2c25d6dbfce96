theorem ag_read : AG_read := by sorry
theorem gr_Md_read : GR_read := by sorry
