/-! CHECKS OF THE CODE of a long method, in pieces. By program (wip/p63/gen4.py). -/
set_option maxRecDepth 100000 in
theorem pk_151_000010 : pAll 5 (pLeaf 151) 16 64 pI_151.1.1.1.1.2.1 = true := by decide +kernel
set_option maxRecDepth 100000 in
theorem pk_151_000110 : pAll 5 (pLeaf 151) 24 64 pI_151.1.1.1.2.2.1 = true := by decide +kernel
set_option maxRecDepth 100000 in
theorem pk_151_001010 : pAll 5 (pLeaf 151) 20 64 pI_151.1.1.2.1.2.1 = true := by decide +kernel
set_option maxRecDepth 100000 in
theorem pk_151_001110 : pAll 5 (pLeaf 151) 28 64 pI_151.1.1.2.2.2.1 = true := by decide +kernel
set_option maxRecDepth 100000 in
theorem pk_151_010010 : pAll 5 (pLeaf 151) 18 64 pI_151.1.2.1.1.2.1 = true := by decide +kernel
set_option maxRecDepth 100000 in
theorem pk_151_010110 : pAll 5 (pLeaf 151) 26 64 pI_151.1.2.1.2.2.1 = true := by decide +kernel
set_option maxRecDepth 100000 in
theorem pk_151_011010 : pAll 5 (pLeaf 151) 22 64 pI_151.1.2.2.1.2.1 = true := by decide +kernel
set_option maxRecDepth 100000 in
theorem pk_151_011110 : pAll 5 (pLeaf 151) 30 64 pI_151.1.2.2.2.2.1 = true := by decide +kernel
set_option maxRecDepth 100000 in
theorem pk_151_100010 : pAll 5 (pLeaf 151) 17 64 pI_151.2.1.1.1.2.1 = true := by decide +kernel
set_option maxRecDepth 100000 in
theorem pk_151_100110 : pAll 5 (pLeaf 151) 25 64 pI_151.2.1.1.2.2.1 = true := by decide +kernel
set_option maxRecDepth 100000 in
theorem pk_151_101010 : pAll 5 (pLeaf 151) 21 64 pI_151.2.1.2.1.2.1 = true := by decide +kernel
set_option maxRecDepth 100000 in
theorem pk_151_101110 : pAll 5 (pLeaf 151) 29 64 pI_151.2.1.2.2.2.1 = true := by decide +kernel
set_option maxRecDepth 100000 in
theorem pk_151_110010 : pAll 5 (pLeaf 151) 19 64 pI_151.2.2.1.1.2.1 = true := by decide +kernel
set_option maxRecDepth 100000 in
theorem pk_151_110110 : pAll 5 (pLeaf 151) 27 64 pI_151.2.2.1.2.2.1 = true := by decide +kernel
set_option maxRecDepth 100000 in
theorem pk_151_111010 : pAll 5 (pLeaf 151) 23 64 pI_151.2.2.2.1.2.1 = true := by decide +kernel
set_option maxRecDepth 100000 in
theorem pk_151_111110 : pAll 5 (pLeaf 151) 31 64 pI_151.2.2.2.2.2.1 = true := by decide +kernel
