theorem mw_text0 {W : zMem} {Q : Int32 → zMem → Prop} (e1 : W 0 1 = 0) : wp_Model_text W Q := by
  intro m1 f1 m2 f2 m3 f3 m4 f4 m5 f5
  sorry
