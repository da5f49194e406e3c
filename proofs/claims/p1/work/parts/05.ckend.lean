theorem a_ckA : ∀ y, y < 208 → a_ckM y = true := by
  intro y hy
  by_cases h0 : y < 4
  · have := a_ckg0 (y - 0) (by omega); rwa [show y - 0 + 0 = y by omega] at this
  by_cases h4 : y < 16
  · have := a_ckg4 (y - 4) (by omega); rwa [show y - 4 + 4 = y by omega] at this
  by_cases h16 : y < 36
  · have := a_ckg16 (y - 16) (by omega); rwa [show y - 16 + 16 = y by omega] at this
  by_cases h36 : y < 48
  · have := a_ckg36 (y - 36) (by omega); rwa [show y - 36 + 36 = y by omega] at this
  by_cases h48 : y < 62
  · have := a_ckg48 (y - 48) (by omega); rwa [show y - 48 + 48 = y by omega] at this
  by_cases h62 : y < 75
  · have := a_ckg62 (y - 62) (by omega); rwa [show y - 62 + 62 = y by omega] at this
  by_cases h75 : y < 89
  · have := a_ckg75 (y - 75) (by omega); rwa [show y - 75 + 75 = y by omega] at this
  by_cases h89 : y < 100
  · have := a_ckg89 (y - 89) (by omega); rwa [show y - 89 + 89 = y by omega] at this
  by_cases h100 : y < 114
  · have := a_ckg100 (y - 100) (by omega); rwa [show y - 100 + 100 = y by omega] at this
  by_cases h114 : y < 127
  · have := a_ckg114 (y - 114) (by omega); rwa [show y - 114 + 114 = y by omega] at this
  by_cases h127 : y < 136
  · have := a_ckg127 (y - 127) (by omega); rwa [show y - 127 + 127 = y by omega] at this
  by_cases h136 : y < 139
  · have := a_ckg136 (y - 136) (by omega); rwa [show y - 136 + 136 = y by omega] at this
  by_cases h139 : y < 147
  · have := a_ckg139 (y - 139) (by omega); rwa [show y - 139 + 139 = y by omega] at this
  by_cases h147 : y < 154
  · have := a_ckg147 (y - 147) (by omega); rwa [show y - 147 + 147 = y by omega] at this
  by_cases h154 : y < 162
  · have := a_ckg154 (y - 154) (by omega); rwa [show y - 154 + 154 = y by omega] at this
  by_cases h162 : y < 165
  · have := a_ckg162 (y - 162) (by omega); rwa [show y - 162 + 162 = y by omega] at this
  by_cases h165 : y < 171
  · have := a_ckg165 (y - 165) (by omega); rwa [show y - 165 + 165 = y by omega] at this
  by_cases h171 : y < 179
  · have := a_ckg171 (y - 171) (by omega); rwa [show y - 171 + 171 = y by omega] at this
  by_cases h179 : y < 187
  · have := a_ckg179 (y - 179) (by omega); rwa [show y - 179 + 179 = y by omega] at this
  by_cases h187 : y < 193
  · have := a_ckg187 (y - 187) (by omega); rwa [show y - 187 + 187 = y by omega] at this
  by_cases h193 : y < 198
  · have := a_ckg193 (y - 193) (by omega); rwa [show y - 193 + 193 = y by omega] at this
  by_cases h198 : y < 201
  · have := a_ckg198 (y - 198) (by omega); rwa [show y - 198 + 198 = y by omega] at this
  by_cases h201 : y < 207
  · have := a_ckg201 (y - 201) (by omega); rwa [show y - 201 + 201 = y by omega] at this
  have := a_ckg207 (y - 207) (by omega); rwa [show y - 207 + 207 = y by omega] at this
